import java.math.BigInteger;

/** Terms 1 and 2, and promises 1 to 6: which exception, the cells, the two widths, and what is put into a cell. */
final class CellEdges {
    private static final Class<?> NO_CELL = IndexOutOfBoundsException.class;
    /** Bits 31 and 63 and what stands beside them. */
    private static final long[] NUMBERS = {
        0, 1, -1, 0x7fff_ffffL, 0x8000_0000L, 0x8000_0001L, 0xffff_ffffL, 0x1_0000_0000L, 0x1_7fff_ffffL,
        0x1_8000_0000L, -0x8000_0000L, -0x8000_0001L, -0x1_0000_0000L, Long.MAX_VALUE, Long.MIN_VALUE,
        Long.MIN_VALUE + 0x8000_0000L, 0x1234_5678_9abc_def0L,
    };
    /** Upper halves that are like neither value of bit 31. */
    private static final long[] UPPER = {0x5a5a_5a5aL << 32, -1L << 32, 0, 1L << 32, 1L << 63};

    private CellEdges() {
    }

    static void run() {
        severalExceptions();
        refusedCalls();
        missingCells();
        eightCells();
        widths();
        numbers();
        putModulo();
        putOnANarrowDesk();
        putAlsoIfTheSame();
        notPut();
        dividing();
        aNewObject();
        setWide();
        set();
        fill();
        number();
    }

    private static void severalExceptions() {
        Check.sentence("Terms 1", "If several exceptions apply to a call, the one that is listed first is thrown;");
        for (int cell : Edge.NO_CELLS) {
            String of = " of cell " + cell;
            for (int wrong : new int[] {-1, 3, 6, 64, Integer.MIN_VALUE, Integer.MAX_VALUE}) {
                Edge.refused("writeBits by " + wrong + of, NO_CELL, desk -> desk.writeBits(cell, wrong));
                Edge.refused("digitAt " + wrong + of, NO_CELL, desk -> desk.digitAt(cell, 10, wrong | 64, true));
                int how = wrong == 3 ? 7 : wrong;
                Edge.refused("combine by " + how + of, NO_CELL, desk -> desk.combine(cell, 0, how));
                Edge.refused("combine with and by " + how + of, NO_CELL, desk -> desk.combine(0, cell, how));
            }
        }
    }

    private static void refusedCalls() {
        Check.sentence("Terms 1", "a call that throws an exception changes nothing.");
        Edge.refused("set(8, 1)", NO_CELL, desk -> desk.set(8, 1));
        Edge.refused("textAt(13)", NO_CELL, desk -> desk.textAt(13));
        Edge.refused("pageAt(3)", NO_CELL, desk -> desk.pageAt(3));
        Edge.refused("read(8, 10, 12, ..)", NO_CELL, desk -> desk.read(8, 10, 12, 10, true));
        Edge.refused("read(0, -1, 12, ..)", NO_CELL, desk -> desk.read(0, -1, 12, 10, true));
        Edge.refused("read(0, 11, 14, ..)", NO_CELL, desk -> desk.read(0, 11, 14, 10, true));
        Edge.refused("write(8, ..)", NO_CELL, desk -> desk.write(8, 10, true));
        Edge.refused("readPage(8, ..)", NO_CELL, desk -> desk.readPage(8, 7, false));
        Edge.refused("reverse(8)", NO_CELL, desk -> desk.reverse(8));
        Edge.refused("divide(0, 1, 8, ..)", NO_CELL, desk -> desk.divide(0, 1, 8, false));
        Edge.refused("example(3)", IllegalArgumentException.class, desk -> desk.example(3));
        Edge.refused("writeBits(0, 3)", IllegalArgumentException.class, desk -> desk.writeBits(0, 3));
        Edge.refused("combine(0, 1, 6)", IllegalArgumentException.class, desk -> desk.combine(0, 1, 6));
        Edge.refused("run()", IllegalStateException.class, desk -> desk.run());
        Edge.refused("type() of 8 bytes behind 293", IllegalStateException.class,
            () -> Check.deskWith(Edge.signs(293)), desk -> desk.type(-1));
        Edge.refused("digitAt(0, 10, 64, ..)", java.util.NoSuchElementException.class,
            desk -> desk.digitAt(0, 10, 64, false));
    }

    private static void missingCells() {
        Check.sentence("Terms 1", "An IndexOutOfBoundsException is thrown for a cell that does not exist.");
        Edge.CellCall[] calls = {
            (desk, cell) -> desk.set(cell, 1), (desk, cell) -> desk.number(cell),
            (desk, cell) -> desk.read(cell, 10, 12, 10, true), (desk, cell) -> desk.write(cell, 10, true),
            (desk, cell) -> desk.writeBits(cell, 0), (desk, cell) -> desk.writeTen(cell, false),
            (desk, cell) -> desk.readPage(cell, 7, false), (desk, cell) -> desk.digitAt(cell, 10, 0, true),
            (desk, cell) -> desk.digitSum(cell, 10, true), (desk, cell) -> desk.isMirror(cell, 10, true),
            (desk, cell) -> desk.count(cell), (desk, cell) -> desk.leading(cell), (desk, cell) -> desk.trailing(cell),
            (desk, cell) -> desk.leadingOnes(cell), (desk, cell) -> desk.trailingOnes(cell),
            (desk, cell) -> desk.sign(cell), (desk, cell) -> desk.reverse(cell),
            (desk, cell) -> desk.reverseBytes(cell), (desk, cell) -> desk.rotate(cell, 1, true),
            (desk, cell) -> desk.highest(cell), (desk, cell) -> desk.lowest(cell), (desk, cell) -> desk.spread(cell),
            (desk, cell) -> desk.combine(cell, 0, 0), (desk, cell) -> desk.combine(0, cell, 0),
            (desk, cell) -> desk.divide(cell, 1, 2, true), (desk, cell) -> desk.divide(0, cell, 2, true),
            (desk, cell) -> desk.divide(0, 1, cell, true), (desk, cell) -> desk.compare(cell, 0, true),
            (desk, cell) -> desk.compare(0, cell, true),
        };
        for (int k = 0; k < calls.length; k++) {
            Edge.cells("call " + k, calls[k]);
        }
    }

    private static void eightCells() {
        Check.sentence("Terms 2", "There are 8 cells, numbered from 0.");
        RadixDesk desk = new RadixDesk();
        for (int k = 0; k < 8; k++) {
            desk.set(k, 100 + k);
        }
        for (int k = 0; k < 8; k++) {
            Check.due("number(" + k + ")", desk.number(k), 100 + k);
        }
        Edge.cells("set", (other, cell) -> other.set(cell, 1));
        Check.sentence("Terms 2", "Each one holds 64 bits, all 0 at first.");
        for (int k = 0; k < 8; k++) {
            Check.due("bits of cell " + k + " at first", Check.bits(new RadixDesk(), k), 0);
            RadixDesk other = Edge.deskOf(true);
            for (int bit = 0; bit < 64; bit++) {
                other.set(k, 1L << bit);
                Check.due("cell " + k + " with bit " + bit, other.number(k), 1L << bit);
            }
        }
    }

    private static void widths() {
        Check.sentence("Terms 2", "The desk is narrow or wide, narrow at first;");
        Check.due("isWide() at first", new RadixDesk().isWide(), false);
        Check.due("the width at first", new RadixDesk().leading(0), 32);
        Check.sentence("Terms 2", "its bits are the lowest 32 bits of a cell if it is narrow, and all 64 if it is wide.");
        for (int bit = 0; bit < 64; bit++) {
            RadixDesk desk = Edge.deskOf(false, 1L << bit);
            Check.due("count() of bit " + bit + " if narrow", desk.count(0), bit < 32 ? 1 : 0);
            Check.due("writeBits() of bit " + bit + " if narrow", desk.writeBits(0, 2), bit < 32 ? bit + 1 : 1);
            desk.setWide(true);
            Check.due("count() of bit " + bit + " if wide", desk.count(0), 1);
            Check.due("writeBits() of bit " + bit + " if wide", desk.writeBits(0, 2), bit + 1);
        }
        Check.sentence("Terms 2", "There are W of them, 32 or 64, numbered from 0, the lowest one.");
        for (int bit = 0; bit < 64; bit++) {
            RadixDesk desk = Edge.deskOf(true, 1L << bit);
            Check.due("trailing() of bit " + bit, desk.trailing(0), bit);
            Check.due("leading() of bit " + bit, desk.leading(0), 63 - bit);
            desk.setWide(false);
            Check.due("trailing() of bit " + bit + " if narrow", desk.trailing(0), Math.min(bit, 32));
            Check.due("leading() of bit " + bit + " if narrow", desk.leading(0), bit < 32 ? 31 - bit : 32);
        }
        RadixDesk desk = Edge.deskOf(false, -1);
        Check.due("bits of -1 if narrow", desk.count(0), 32);
        desk.setWide(true);
        Check.due("bits of -1 if wide", desk.count(0), 64);
    }

    private static BigInteger sumOfBits(long bits, int width) {
        BigInteger sum = BigInteger.ZERO;
        for (int k = 0; k < width; k++) {
            sum = (bits >>> k & 1) == 1 ? sum.add(BigInteger.TWO.pow(k)) : sum;
        }
        return sum;
    }

    private static void numbers() {
        Check.sentence("Terms 2", "The number of a cell is that from -2^(W-1) to 2^(W-1) - 1 that is the same as the"
            + " sum of 2^k, over all of its bits k that are 1, modulo 2^W;");
        for (boolean isWide : Edge.BOTH) {
            int width = isWide ? 64 : 32;
            BigInteger half = BigInteger.TWO.pow(width - 1);
            for (long bits : NUMBERS) {
                BigInteger sum = sumOfBits(bits, width);
                BigInteger number = sum.compareTo(half) < 0 ? sum : sum.subtract(half.add(half));
                Check.due("number() of " + bits + Edge.width(isWide), Edge.deskOf(isWide, bits).number(0),
                    number.longValueExact());
            }
        }
        Check.sentence("Terms 2", "the plain number is that from 0 to 2^W - 1.");
        for (boolean isWide : Edge.BOTH) {
            for (long bits : NUMBERS) {
                RadixDesk desk = Edge.deskOf(isWide, bits);
                desk.writeTen(0, true);
                Check.due("plain number of " + bits + Edge.width(isWide), Check.page(desk),
                    sumOfBits(bits, isWide ? 64 : 32).toString());
            }
        }
    }

    private static void combined(boolean isWide, long first, long second, int how, long number) {
        RadixDesk desk = Edge.deskOf(isWide, first, second);
        String what = first + " and " + second + " combined by " + how + Edge.width(isWide);
        Check.due(what, desk.combine(0, 1, how), number);
        Check.due("bits of " + what, Check.bits(desk, 0), number);
    }

    private static void putModulo() {
        Check.sentence("Terms 2", "A number is put into a cell so that its W bits are those of the number modulo 2^W;");
        long low = Integer.MIN_VALUE;
        long high = Integer.MAX_VALUE;
        combined(false, high, 0, RadixDesk.ADD, high);
        combined(false, high, 1, RadixDesk.ADD, low);
        combined(false, high, high, RadixDesk.ADD, -2);
        combined(false, low, -1, RadixDesk.ADD, high);
        combined(false, low, low, RadixDesk.ADD, 0);
        combined(false, low, 0, RadixDesk.SUBTRACT, low);
        combined(false, low, 1, RadixDesk.SUBTRACT, high);
        combined(false, 0, low, RadixDesk.SUBTRACT, low);
        combined(false, high, -1, RadixDesk.SUBTRACT, low);
        combined(false, 46340, 46340, RadixDesk.MULTIPLY, 2147395600L);
        combined(false, 46341, 46341, RadixDesk.MULTIPLY, -2147479015L);
        combined(false, 65536, 65536, RadixDesk.MULTIPLY, 0);
        combined(false, low, -1, RadixDesk.MULTIPLY, low);
        combined(false, low, low, RadixDesk.MULTIPLY, 0);
        combined(true, high, 1, RadixDesk.ADD, high + 1);
        combined(true, Long.MAX_VALUE, 0, RadixDesk.ADD, Long.MAX_VALUE);
        combined(true, Long.MAX_VALUE, 1, RadixDesk.ADD, Long.MIN_VALUE);
        combined(true, Long.MIN_VALUE, Long.MIN_VALUE, RadixDesk.ADD, 0);
        combined(true, Long.MIN_VALUE, 1, RadixDesk.SUBTRACT, Long.MAX_VALUE);
        combined(true, 0, Long.MIN_VALUE, RadixDesk.SUBTRACT, Long.MIN_VALUE);
        combined(true, 3037000499L, 3037000499L, RadixDesk.MULTIPLY, 9223372030926249001L);
        combined(true, 3037000500L, 3037000500L, RadixDesk.MULTIPLY, -9223372036709301616L);
        combined(true, 1L << 32, 1L << 32, RadixDesk.MULTIPLY, 0);
        combined(true, Long.MIN_VALUE, -1, RadixDesk.MULTIPLY, Long.MIN_VALUE);
        for (boolean isWide : Edge.BOTH) {
            long least = isWide ? Long.MIN_VALUE : low;
            RadixDesk desk = Edge.deskOf(isWide, least, -1, 5);
            Check.due("divide() of the least number by -1", desk.divide(0, 1, 2, false), true);
            Check.due("its quotient" + Edge.width(isWide), Check.bits(desk, 0), least);
            Check.due("its rest" + Edge.width(isWide), Check.bits(desk, 2), 0);
        }
    }

    /** On a narrow desk the call must put this into cell 0, whatever its upper half was. */
    private static void puts(String what, long low, Edge.CellCall call, long after) {
        for (long upper : UPPER) {
            RadixDesk desk = Edge.deskOf(false, upper | low, 2, 3, 0x8000_0000L, 1);
            Check.type(desk, "2147483648 2147483647 -2147483648 7");
            call.on(desk, 0);
            Check.due("bits after " + what + " of " + Long.toHexString(upper | low), Check.bits(desk, 0), after);
        }
    }

    private static void putOnANarrowDesk() {
        Check.sentence("Terms 2", "on a narrow desk, the upper 32 bits of the cell become like bit 31 then.");
        puts("read plain", 5, (desk, cell) -> desk.read(cell, 0, 10, 10, true), Integer.MIN_VALUE);
        puts("read", 5, (desk, cell) -> desk.read(cell, 11, 21, 10, false), Integer.MAX_VALUE);
        puts("read of a minus", 5, (desk, cell) -> desk.read(cell, 22, 33, 10, false), Integer.MIN_VALUE);
        puts("readPage", 5, (desk, cell) -> {
            desk.write(3, 9, false);
            desk.readPage(cell, 9, false);
        }, Integer.MIN_VALUE);
        puts("readPage plain", 5, (desk, cell) -> {
            desk.write(3, 9, true);
            desk.readPage(cell, 9, true);
        }, Integer.MIN_VALUE);
        puts("combine by ADD", 0x7fff_ffffL, (desk, cell) -> desk.combine(cell, 4, 0), Integer.MIN_VALUE);
        puts("combine by SUBTRACT", 0x8000_0000L, (desk, cell) -> desk.combine(cell, 4, 1), Integer.MAX_VALUE);
        puts("combine by MULTIPLY", 0x4000_0000L, (desk, cell) -> desk.combine(cell, 1, 2), Integer.MIN_VALUE);
        puts("combine by AND", 0xffff_ffffL, (desk, cell) -> desk.combine(cell, 3, 3), Integer.MIN_VALUE);
        puts("combine by OR", 0x7fff_ffffL, (desk, cell) -> desk.combine(cell, 3, 4), -1);
        puts("combine by XOR", 0xffff_ffffL, (desk, cell) -> desk.combine(cell, 3, 5), Integer.MAX_VALUE);
        puts("the quotient", 0xffff_fffcL, (desk, cell) -> desk.divide(cell, 1, 5, false), -2);
        puts("the plain quotient", 0xffff_fffcL, (desk, cell) -> desk.divide(cell, 1, 5, true), 0x7fff_fffeL);
        puts("the rest", 7, (desk, cell) -> desk.divide(3, 2, cell, false), -2);
        puts("the plain rest", 7, (desk, cell) -> desk.divide(3, 2, cell, true), 2);
        puts("reverse to bit 31", 1, (desk, cell) -> desk.reverse(cell), Integer.MIN_VALUE);
        puts("reverse to bit 0", 0x8000_0000L, (desk, cell) -> desk.reverse(cell), 1);
        puts("reverseBytes to bit 31", 0x80, (desk, cell) -> desk.reverseBytes(cell), Integer.MIN_VALUE);
        puts("reverseBytes to bit 7", 0x8000_0000L, (desk, cell) -> desk.reverseBytes(cell), 0x80);
        puts("rotate to the left", 0x4000_0000L, (desk, cell) -> desk.rotate(cell, 1, true), Integer.MIN_VALUE);
        puts("rotate to the right", 0x8000_0000L, (desk, cell) -> desk.rotate(cell, 1, false), 0x4000_0000L);
        puts("highest", 0x8000_0001L, (desk, cell) -> desk.highest(cell), Integer.MIN_VALUE);
        puts("highest below bit 31", 0x4000_0001L, (desk, cell) -> desk.highest(cell), 0x4000_0000L);
        puts("lowest", 0x8000_0000L, (desk, cell) -> desk.lowest(cell), Integer.MIN_VALUE);
        puts("lowest below bit 31", 0xc000_0000L, (desk, cell) -> desk.lowest(cell), 0x4000_0000L);
    }

    private static void putAlsoIfTheSame() {
        Check.sentence("Terms 2", "What changes the W bits of a cell in another way puts them in likewise, also if they"
            + " become what they were,");
        for (long low : new long[] {0, 0xffff_ffffL, 0x8000_0001L, 0x0800_0010L}) {
            puts("reverse", low, (desk, cell) -> desk.reverse(cell), (int) low);
        }
        for (long low : new long[] {0, 0xffff_ffffL, 0x8100_0081L, 0x1234_3412L}) {
            puts("reverseBytes", low, (desk, cell) -> desk.reverseBytes(cell), (int) low);
        }
        for (int distance : new int[] {0, 32, -32, 64, 96, Integer.MIN_VALUE}) {
            puts("rotate left by " + distance, 0x8765_4321L, (desk, cell) -> desk.rotate(cell, distance, true),
                (int) 0x8765_4321L);
            puts("rotate right by " + distance, 0x1234_5678L, (desk, cell) -> desk.rotate(cell, distance, false),
                0x1234_5678L);
        }
        for (long low : new long[] {0, 1, 0x4000_0000L, 0x8000_0000L}) {
            puts("highest", low, (desk, cell) -> desk.highest(cell), (int) low);
            puts("lowest", low, (desk, cell) -> desk.lowest(cell), (int) low);
        }
        for (long low : new long[] {0, 1, 0x7fff_ffffL, 0x8000_0000L, 0xffff_ffffL}) {
            for (int how : new int[] {RadixDesk.ADD, RadixDesk.SUBTRACT, RadixDesk.OR, RadixDesk.XOR}) {
                puts("combine with 0 by " + how, low, (desk, cell) -> desk.combine(cell, 7, how), (int) low);
            }
            puts("multiply by 1", low, (desk, cell) -> desk.combine(cell, 4, RadixDesk.MULTIPLY), (int) low);
            puts("and with itself", low, (desk, cell) -> desk.combine(cell, cell, RadixDesk.AND), (int) low);
            puts("divide by 1", low, (desk, cell) -> desk.divide(cell, 4, 5, false), (int) low);
            puts("divide plain by 1", low, (desk, cell) -> desk.divide(cell, 4, 5, true), (int) low);
        }
        puts("read of what it is", 7, (desk, cell) -> desk.read(cell, 34, 35, 10, false), 7);
    }

    private static void notPut() {
        Check.sentence("Terms 2", "if nothing else is said.");
        for (long bits : NUMBERS) {
            RadixDesk desk = Edge.deskOf(false, bits);
            Check.due("bits of set() " + bits, Check.bits(desk, 0), bits);
            desk.sort(false);
            desk.sort(true);
            desk.setWide(true);
            desk.sort(true);
            Check.due("bits of a sorted " + bits, desk.number(7), bits);
            desk.setWide(false);
            desk.spread(7);
            Check.due("bits of spread() " + bits, Check.bits(desk, 7), bits & 0xffff_ffffL);
            desk.fill(bits, 0);
            Check.due("bits of fill() " + bits, Check.bits(desk, 0), bits);
        }
    }

    private static void divided(boolean isWide, boolean isPlain, long first, long second, long quotient, long rest) {
        RadixDesk desk = Edge.deskOf(isWide, first, second);
        String what = first + " by " + second + Edge.width(isWide);
        Check.due("divide() of " + what, desk.divide(0, 1, 2, isPlain), true);
        Check.due("quotient of " + what, desk.number(0), quotient);
        Check.due("rest of " + what, desk.number(2), rest);
    }

    private static void dividing() {
        Check.sentence("Terms 2", "To divide, the quotient is cut towards 0, and the rest is what is left then (it has"
            + " the sign of the first number, or is 0).");
        for (boolean isWide : Edge.BOTH) {
            divided(isWide, false, 7, 2, 3, 1);
            divided(isWide, false, 7, -2, -3, 1);
            divided(isWide, false, -7, 2, -3, -1);
            divided(isWide, false, -7, -2, 3, -1);
            divided(isWide, false, 6, -3, -2, 0);
            divided(isWide, false, -6, 3, -2, 0);
            divided(isWide, false, 1, 2, 0, 1);
            divided(isWide, false, -1, 2, 0, -1);
            divided(isWide, false, 1, -2, 0, 1);
            divided(isWide, false, 0, -5, 0, 0);
            long least = isWide ? Long.MIN_VALUE : Integer.MIN_VALUE;
            divided(isWide, false, least, -1, least, 0);
            divided(isWide, false, least, 1, least, 0);
            divided(isWide, false, least, least, 1, 0);
            divided(isWide, false, least + 1, least, 0, least + 1);
            divided(isWide, false, -1 - least, least, 0, -1 - least);
            divided(isWide, false, least, -1 - least, -1, -1);
        }
        Check.sentence("Terms 2", "If two numbers are plain, both results are plain, too.");
        divided(false, true, -1, 1, -1, 0);
        divided(false, true, -1, 2, Integer.MAX_VALUE, 1);
        divided(false, true, -2, -1, 0, -2);
        divided(false, true, -1, -2, 1, 1);
        divided(false, true, Integer.MIN_VALUE, -1, 0, Integer.MIN_VALUE);
        divided(false, true, -1, Integer.MIN_VALUE, 1, Integer.MAX_VALUE);
        divided(false, true, -1, 10, 429496729L, 5);
        divided(true, true, -1, 1, -1, 0);
        divided(true, true, -1, 2, Long.MAX_VALUE, 1);
        divided(true, true, -2, -1, 0, -2);
        divided(true, true, -1, -2, 1, 1);
        divided(true, true, Long.MIN_VALUE, -1, 0, Long.MIN_VALUE);
        divided(true, true, -1, Long.MIN_VALUE, 1, Long.MAX_VALUE);
        divided(true, true, -1, 10, 1844674407370955161L, 5);
        divided(true, true, 5, -1, 0, 5);
    }

    private static void aNewObject() {
        Check.sentence("Promise 1", "Creates a narrow desk with an empty text, an empty page, and all cells 0.");
        Check.due("isWide()", new RadixDesk().isWide(), false);
        Check.due("textLength()", new RadixDesk().textLength(), 0);
        Check.due("pageLength()", new RadixDesk().pageLength(), 0);
        Edge.refused("textAt(0)", NO_CELL, RadixDesk::new, desk -> desk.textAt(0));
        Edge.refused("pageAt(0)", NO_CELL, RadixDesk::new, desk -> desk.pageAt(0));
        Check.due("number(7)", new RadixDesk().number(7), 0);
        RadixDesk busy = Edge.busy(true);
        Check.due("a desk made behind " + busy.textLength(), Check.wholeState(new RadixDesk()),
            "narrow 0 0 0 0 0 0 0 0 text 0  page ");
    }

    private static void setWide() {
        Check.sentence("Promise 2", "Makes the desk wide or narrow; the cells stay as they are.");
        for (long bits : NUMBERS) {
            RadixDesk desk = Edge.deskOf(false, 0, bits);
            desk.setWide(true);
            Check.due("wide number of " + bits, desk.number(1), bits);
            desk.setWide(false);
            Check.due("narrow number of " + bits, desk.number(1), (int) bits);
            desk.setWide(false);
            desk.setWide(true);
            Check.due("wide number again of " + bits, desk.number(1), bits);
        }
        String narrow = Check.wholeState(Edge.busy(false));
        RadixDesk busy = Edge.busy(true);
        busy.setWide(false);
        Check.due("text and page after setWide()", Check.wholeState(busy), narrow);
        Check.sentence("Promise 2", "Returns whether it was wide.");
        RadixDesk desk = new RadixDesk();
        Check.due("setWide(false) at first", desk.setWide(false), false);
        Check.due("setWide(true)", desk.setWide(true), false);
        Check.due("setWide(true) again", desk.setWide(true), true);
        Check.due("setWide(false)", desk.setWide(false), true);
        Check.due("setWide(false) again", desk.setWide(false), false);
        Check.sentence("Promise 3", "Tells whether the desk is wide. Returns whether it is.");
        Check.due("isWide() if narrow", desk.isWide(), false);
        desk.setWide(true);
        Check.due("isWide() if wide", desk.isWide(), true);
        Check.due("isWide() twice", desk.isWide(), true);
        Edge.changesNothing("isWide()", RadixDesk::isWide);
    }

    private static void set() {
        Check.sentence("Promise 4", "Gives 64 bits to a cell, also on a narrow desk.");
        for (boolean isWide : Edge.BOTH) {
            for (long bits : NUMBERS) {
                RadixDesk desk = Edge.deskOf(isWide, 11, 12, 13);
                desk.set(1, bits);
                Check.due("bits of set " + bits + Edge.width(isWide), Check.bits(desk, 1), bits);
                Check.due("the cell in front" + Edge.width(isWide), desk.number(0), 11);
                Check.due("the cell behind" + Edge.width(isWide), desk.number(2), 13);
            }
        }
        Check.sentence("Promise 4", "Returns the number of the cell before.");
        for (boolean isWide : Edge.BOTH) {
            for (long bits : NUMBERS) {
                RadixDesk desk = Edge.deskOf(isWide, bits);
                Check.due("set() over " + bits + Edge.width(isWide), desk.set(0, ~bits), Edge.put(bits, isWide));
            }
        }
        Check.sentence("Promise 4", "Throws `IndexOutOfBoundsException` if there is no such cell");
        Edge.cells("set", (desk, cell) -> desk.set(cell, -5));
    }

    private static void fill() {
        Check.sentence("Promise 5", "Gives 64 bits to all cells, also on a narrow desk:");
        for (long bits : NUMBERS) {
            RadixDesk desk = Edge.deskOf(false, 9, 9, 9, 9, 9, 9, 9, 9);
            desk.fill(bits, 0);
            for (int k = 0; k < 8; k++) {
                Check.due("bits of cell " + k + " after fill(" + bits + ", 0)", Check.bits(desk, k), bits);
            }
        }
        Check.sentence("Promise 5", "to the cell k those of first + k * step, modulo 2^64.");
        long[][] fills = {
            {0, 0}, {-1, 0}, {5, 1}, {5, -1}, {Long.MAX_VALUE, 1}, {Long.MIN_VALUE, -1}, {Long.MAX_VALUE, Long.MAX_VALUE},
            {Long.MIN_VALUE, Long.MIN_VALUE}, {0, 1L << 61}, {0, 1L << 32}, {0x7fff_ffffL, 1}, {-0x8000_0000L, -1},
        };
        for (boolean isWide : Edge.BOTH) {
            for (long[] fill : fills) {
                RadixDesk desk = Edge.deskOf(isWide, 9, 9, 9, 9, 9, 9, 9, 9);
                desk.fill(fill[0], fill[1]);
                BigInteger next = BigInteger.valueOf(fill[0]);
                for (int k = 0; k < 8; k++) {
                    Check.due("bits of cell " + k + " after fill(" + fill[0] + ", " + fill[1] + ")",
                        Check.bits(desk, k), next.longValue());
                    next = next.add(BigInteger.valueOf(fill[1]));
                }
            }
        }
        Check.sentence("Promise 5", "Returns the number of the last cell then.");
        Check.due("fill(3, 1)", new RadixDesk().fill(3, 1), 10);
        Check.due("fill(2^31 - 8, 1)", new RadixDesk().fill(0x7fff_fff8L, 1), Integer.MAX_VALUE);
        Check.due("fill(2^31 - 7, 1)", new RadixDesk().fill(0x7fff_fff9L, 1), Integer.MIN_VALUE);
        Check.due("fill(2^31 - 7, 1) if wide", Edge.deskOf(true).fill(0x7fff_fff9L, 1), 0x8000_0000L);
        Check.due("fill(2^63 - 8, 1) if wide", Edge.deskOf(true).fill(Long.MAX_VALUE - 7, 1), Long.MAX_VALUE);
        Check.due("fill(2^63 - 7, 1) if wide", Edge.deskOf(true).fill(Long.MAX_VALUE - 6, 1), Long.MIN_VALUE);
    }

    private static void number() {
        Check.sentence("Promise 6", "Returns the number of a cell.");
        for (boolean isWide : Edge.BOTH) {
            for (long bits : NUMBERS) {
                for (int cell : new int[] {0, 7}) {
                    RadixDesk desk = Edge.deskOf(isWide, 1, 1, 1, 1, 1, 1, 1, 1);
                    desk.set(cell, bits);
                    Check.due("number() of " + bits + Edge.width(isWide), desk.number(cell), Edge.put(bits, isWide));
                }
            }
        }
        Edge.changesNothing("number(7)", desk -> desk.number(7));
        Check.sentence("Promise 6", "Returns its number.");
        Check.due("number() of 2^31 (narrow)", Edge.deskOf(false, 1L << 31).number(0), Integer.MIN_VALUE);
        Check.due("number() of 2^31 (wide)", Edge.deskOf(true, 1L << 31).number(0), 1L << 31);
        Check.sentence("Promise 6", "Throws `IndexOutOfBoundsException` if there is no such cell");
        Edge.cells("number", (desk, cell) -> desk.number(cell));
    }
}
