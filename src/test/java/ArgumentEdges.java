/** What the document says of each argument: which cell is meant, any number, and what true and false stand for. */
final class ArgumentEdges {
    private static final String CELL = "`cell`: number of a cell";
    private static final String ANY_RADIX = "`radix`: any number";
    private static final String PLAIN_NUMBER = "`isPlain`: true for the plain number";
    private static final String PLAIN_NUMBERS = "`isPlain`: true for plain numbers";
    private static final String PLAIN_READING = "`isPlain`: true to read it plain, false with the sign";
    private static final String MAY_BE_THE_SAME = ": number of a cell, which may be the same one";
    private static final int[] FAR = {Integer.MIN_VALUE, Integer.MIN_VALUE + 1, -1, 0, 1, Integer.MAX_VALUE};
    /** Numbers above and below 0 on either desk, so that a call for the wrong cell shows. */
    private static final long[] APART = {
        0x0000_0000_1234_5678L, 0x0000_0001_7fff_fff0L, 0x5a5a_5a5a_0000_0700L, 0x7fff_0000_0800_0001L,
        -0x1_0000_0000L - 77, 0xf000_0000_8000_0000L, -3, 0x8000_0000_ffff_0f0fL,
    };

    private ArgumentEdges() {
    }

    /** A call that is told a cell, with its answer. */
    private interface CellCall {
        Object on(RadixDesk desk, int cell);
    }

    static void run() {
        cells();
        cellsOfBits();
        otherCells();
        dividedCells();
        numbers();
        indexes();
        radixesToWrite();
        radixesToRead();
        distances();
        flagsOfWriting();
        flagsOfReading();
        flagsOfNumbers();
        namedKinds();
    }

    private static RadixDesk prepared(boolean isWide, long... bits) {
        RadixDesk desk = Check.deskWith("12z");
        desk.set(0, 44);
        desk.write(0, 10, false);
        for (int k = 0; k < bits.length; k++) {
            desk.set(k, bits[k]);
        }
        desk.setWide(isWide);
        return desk;
    }

    /** The call must do with each cell what it does with cell 0 of a desk that has the same bits there. */
    private static void cell(int promise, CellCall call) {
        Check.sentence("Promise " + promise, CELL);
        for (boolean isWide : Edge.BOTH) {
            for (int cell = 0; cell < 8; cell++) {
                String what = "promise " + promise + " with cell " + cell + Edge.width(isWide);
                RadixDesk desk = prepared(isWide, APART);
                RadixDesk first = prepared(isWide, APART[cell], 1, 2, 3, 4, 5, 6, 7);
                Check.due(what, call.on(desk, cell), call.on(first, 0));
                Check.due("page after " + what, Check.page(desk), Check.page(first));
                for (int k = 0; k < 8; k++) {
                    Check.due("cell " + k + " after " + what, Check.bits(desk, k),
                        k == cell ? Check.bits(first, 0) : APART[k]);
                }
            }
        }
    }

    private static void cells() {
        cell(4, (desk, cell) -> desk.set(cell, 1L << 40 | 9));
        cell(6, (desk, cell) -> desk.number(cell));
        cell(12, (desk, cell) -> desk.read(cell, 0, 3, 36, false));
        cell(13, (desk, cell) -> desk.write(cell, 7, false));
        cell(14, (desk, cell) -> desk.writeBits(cell, RadixDesk.OCTAL));
        cell(15, (desk, cell) -> desk.writeTen(cell, true));
        cell(19, (desk, cell) -> desk.readPage(cell, 5, true));
        cell(20, (desk, cell) -> desk.digitAt(cell, 10, 0, false));
        cell(21, (desk, cell) -> desk.digitSum(cell, 10, true));
        cell(22, (desk, cell) -> desk.isMirror(cell, 2, false));
        cell(29, (desk, cell) -> desk.sign(cell));
        cell(32, (desk, cell) -> desk.rotate(cell, 5, true));
        cell(36, (desk, cell) -> desk.combine(cell, cell, RadixDesk.MULTIPLY));
        cell(37, (desk, cell) -> desk.divide(cell, cell, cell, false));
        cell(38, (desk, cell) -> desk.compare(cell, cell, false));
    }

    private static void cellsOfBits() {
        cell(24, (desk, cell) -> desk.count(cell));
        cell(25, (desk, cell) -> desk.leading(cell));
        cell(26, (desk, cell) -> desk.trailing(cell));
        cell(27, (desk, cell) -> desk.leadingOnes(cell));
        cell(28, (desk, cell) -> desk.trailingOnes(cell));
        cell(30, (desk, cell) -> desk.reverse(cell));
        cell(31, (desk, cell) -> desk.reverseBytes(cell));
        cell(33, (desk, cell) -> desk.highest(cell));
        cell(34, (desk, cell) -> desk.lowest(cell));
        cell(35, (desk, cell) -> desk.spread(cell));
    }

    private static void otherCells() {
        Check.sentence("Promise 36", "`other`" + MAY_BE_THE_SAME);
        for (int cell = 0; cell < 8; cell++) {
            for (int other = 0; other < 8; other++) {
                RadixDesk desk = Edge.deskOf(true, 1, 20, 300, 4000, 50000, 600000, 7000000, 80000000);
                String what = " of " + cell + " and " + other;
                long first = desk.number(cell);
                long second = desk.number(other);
                Check.due("difference" + what, desk.combine(cell, other, RadixDesk.SUBTRACT), first - second);
                Check.due("other cell" + what, desk.number(other), cell == other ? 0 : second);
            }
        }
        Check.sentence("Promise 38", "`other`: number of a cell");
        for (int cell = 0; cell < 8; cell++) {
            for (int other = 0; other < 8; other++) {
                RadixDesk desk = Edge.deskOf(false, 3, 1, -4, 1L << 31, 5, -9, 2, 6);
                Check.due("order of " + cell + " and " + other, desk.compare(cell, other, false),
                    Long.compare(desk.number(cell), desk.number(other)));
            }
        }
    }

    private static void divided(int cell, int by, int rest) {
        long[] numbers = {1001, -2002, 37, 4, -55, 666, 7, -88};
        RadixDesk desk = Edge.deskOf(false, numbers);
        desk.divide(cell, by, rest, false);
        String what = cell + " by " + by + " with the rest in " + rest;
        for (int k = 0; k < 8; k++) {
            long due = k == rest ? numbers[cell] % numbers[by] : k == cell ? numbers[cell] / numbers[by] : numbers[k];
            Check.due("cell " + k + " after " + what, desk.number(k), due);
        }
    }

    private static void dividedCells() {
        Check.sentence("Promise 37", "`by`" + MAY_BE_THE_SAME);
        for (int cell = 0; cell < 8; cell++) {
            divided(cell, cell, (cell + 1) % 8);
            for (int by = 0; by < 8; by++) {
                divided(cell, by, cell == 7 || by == 7 ? 6 : 7);
            }
        }
        Check.sentence("Promise 37", "`rest`: number of a cell, which may be one of both (then only the rest is there"
            + " in the end, if it is the first one)");
        for (int cell = 0; cell < 8; cell++) {
            for (int by = 0; by < 8; by++) {
                for (int rest = 0; rest < 8; rest++) {
                    divided(cell, by, rest);
                }
            }
        }
    }

    private static void numbers() {
        Check.sentence("Promise 4", "`number`: the 64 bits, as a number with its sign");
        for (int bit = 0; bit < 64; bit++) {
            RadixDesk desk = Edge.deskOf(true);
            desk.set(3, 1L << bit);
            desk.writeBits(3, RadixDesk.BINARY);
            Check.due("bit " + bit, Check.page(desk), "1" + "0".repeat(bit));
            desk.set(3, -1L << bit);
            desk.writeBits(3, RadixDesk.BINARY);
            Check.due("bits from " + bit + " on", Check.page(desk), "1".repeat(64 - bit) + "0".repeat(bit));
        }
        long[] any = {Long.MIN_VALUE, Long.MIN_VALUE + 1, -1L << 32, -1, 0, 1, 1L << 31, 1L << 61, Long.MAX_VALUE};
        for (String name : new String[] {"`first`: any number", "`step`: any number"}) {
            Check.sentence("Promise 5", name);
            for (long number : any) {
                boolean isFirst = name.startsWith("`first`");
                RadixDesk desk = Edge.deskOf(true);
                desk.fill(isFirst ? number : 5, isFirst ? 3 : number);
                for (int k = 0; k < 8; k++) {
                    Check.due("cell " + k + " by " + name + " " + number, desk.number(k),
                        isFirst ? number + 3L * k : 5 + k * number);
                }
            }
        }
        Check.sentence("Promise 7", "`bytes`: the number");
        RadixDesk desk = new RadixDesk();
        Check.due("type() of a number above 0", desk.type(0x0061_6200_0063_0064L), 4);
        Check.due("type() of a number below 0", desk.type(-0x7f7e_7d7c_7b7a_7978L), 12);
        Check.due("text", Check.text(desk), "abcd\u0080\u0081\u0082\u0083\u0084\u0085\u0086\u0088");
    }

    private static void indexes() {
        Check.sentence("Promise 10", "`index`: 0 for the first one");
        RadixDesk desk = Check.deskWith("uvw");
        Check.due("textAt(0)", desk.textAt(0), 'u');
        Check.due("textAt(1)", desk.textAt(1), 'v');
        Check.due("textAt(2)", desk.textAt(2), 'w');
        Check.sentence("Promise 11", "`which`: 0 to 2");
        int[] ends = {106, 157, 166};
        for (int which = 0; which < 3; which++) {
            Check.due("example(" + which + ")", new RadixDesk().example(which), ends[which]);
        }
        Check.sentence("Promise 12", "`from`: index of the first byte of the piece");
        RadixDesk digits = Check.deskWith("98765");
        for (int from = 0; from < 5; from++) {
            digits.read(from, from, 5, 10, false);
            Check.due("number from " + from + " on", digits.number(from), Integer.parseInt("98765".substring(from)));
        }
        Check.sentence("Promise 12", "`to`: index behind its last byte");
        for (int to = 1; to <= 5; to++) {
            digits.read(to, 0, to, 10, true);
            Check.due("number up to " + to, digits.number(to), Integer.parseInt("98765".substring(0, to)));
        }
        Check.sentence("Promise 17", "`index`: 0 for the first one");
        RadixDesk page = Edge.deskOf(false, -12);
        page.write(0, 10, false);
        Check.due("pageAt(0)", page.pageAt(0), '-');
        Check.due("pageAt(1)", page.pageAt(1), '1');
        Check.due("pageAt(2)", page.pageAt(2), '2');
        Check.sentence("Promise 20", "`index`: 0 for the last digit, 1 for the one in front of it, and so on");
        for (int index = 0; index < 9; index++) {
            Check.due("digitAt " + index, Edge.deskOf(false, -123456789).digitAt(0, 10, index, false), 9 - index);
        }
    }

    private static void radixesToWrite() {
        int[] promises = {13, 20, 21, 22, 23};
        CellCall[] told = {
            (desk, radix) -> desk.write(1, radix, false) + Check.page(desk),
            (desk, radix) -> desk.digitAt(1, radix, 1, false), (desk, radix) -> desk.digitSum(1, radix, false),
            (desk, radix) -> desk.isMirror(1, radix, false) + " " + desk.isMirror(2, radix, false),
            (desk, radix) -> desk.longest(radix, false),
        };
        for (int k = 0; k < promises.length; k++) {
            Check.sentence("Promise " + promises[k], ANY_RADIX);
            Object ten = told[k].on(Edge.deskOf(false, 0, -7657, 7667, 10000), 10);
            for (int radix : Edge.NO_RADIXES) {
                RadixDesk desk = Edge.deskOf(false, 0, -7657, 7667, 10000);
                Check.due("by radix " + radix, told[k].on(desk, radix), ten);
            }
            for (int radix : FAR) {
                RadixDesk desk = Edge.deskOf(true, 0, -7657, 7667, 10000);
                Check.due("by radix " + radix, told[k].on(desk, radix), ten);
            }
        }
    }

    private static void radixesToRead() {
        for (int promise : new int[] {12, 19}) {
            Check.sentence("Promise " + promise, ANY_RADIX);
            for (int radix : Edge.NO_RADIXES) {
                for (boolean isPlain : Edge.BOTH) {
                    Edge.changesNothing("promise " + promise + " by radix " + radix, () -> prepared(false, APART),
                        desk -> Check.due("its answer", promise == 12 ? desk.read(1, 0, 2, radix, isPlain)
                            : desk.readPage(1, radix, isPlain), false));
                }
            }
            for (int radix = 5; radix <= 36; radix++) {
                RadixDesk desk = prepared(true, APART);
                Check.due("promise " + promise + " by radix " + radix,
                    promise == 12 ? desk.read(1, 0, 2, radix, false) : desk.readPage(1, radix, false), true);
                Check.due("its number", desk.number(1), promise == 12 ? radix + 2 : 4 * radix + 4);
            }
        }
    }

    private static void distances() {
        Check.sentence("Promise 32", "`distance`: any number");
        for (boolean isWide : Edge.BOTH) {
            int width = isWide ? 64 : 32;
            for (int distance : FAR) {
                int place = Math.floorMod(distance, width);
                Check.due("1 to the left by " + distance, Edge.deskOf(isWide, 1).rotate(0, distance, true),
                    Edge.put(1L << place, isWide));
                Check.due("1 to the right by " + distance, Edge.deskOf(isWide, 1).rotate(0, distance, false),
                    Edge.put(1L << (width - place) % width, isWide));
            }
        }
        Check.sentence("Promise 32", "`isLeft`: true for the left, false for the right");
        Check.due("8 to the left", Edge.deskOf(false, 8).rotate(0, 2, true), 32);
        Check.due("8 to the right", Edge.deskOf(false, 8).rotate(0, 2, false), 2);
    }

    private static void flagsOfWriting() {
        Check.sentence("Promise 2", "`isWide`: whether it is wide from now on");
        RadixDesk desk = Edge.deskOf(false, -1);
        desk.setWide(true);
        Check.due("count() after setWide(true)", desk.count(0), 64);
        desk.setWide(false);
        Check.due("count() after setWide(false)", desk.count(0), 32);
        Check.sentence("Promise 13", PLAIN_NUMBER);
        Check.due("write() of -1 with the sign", Edge.deskOf(false, -1).write(0, 16, false), 2);
        Check.due("write() of -1 plain", Edge.deskOf(false, -1).write(0, 16, true), 8);
        Check.sentence("Promise 15", PLAIN_NUMBER);
        Check.due("writeTen() of -1 with the sign", Edge.deskOf(false, -1).writeTen(0, false), 2);
        Check.due("writeTen() of -1 plain", Edge.deskOf(false, -1).writeTen(0, true), 10);
        Check.sentence("Promise 20", PLAIN_NUMBER);
        Check.due("digit of -1 with the sign", Edge.deskOf(false, -1).digitAt(0, 10, 0, false), 1);
        Check.due("digit of -1 plain", Edge.deskOf(false, -1).digitAt(0, 10, 0, true), 5);
        Check.sentence("Promise 21", PLAIN_NUMBER);
        Check.due("digits of -1 with the sign", Edge.deskOf(false, -1).digitSum(0, 2, false), 1);
        Check.due("digits of -1 plain", Edge.deskOf(false, -1).digitSum(0, 2, true), 32);
        Check.sentence("Promise 22", PLAIN_NUMBER);
        Check.due("isMirror() of -1 with the sign", Edge.deskOf(false, -1).isMirror(0, 10, false), true);
        Check.due("isMirror() of -1 plain", Edge.deskOf(false, -1).isMirror(0, 10, true), false);
        Check.sentence("Promise 23", PLAIN_NUMBERS);
        Check.due("longest() with the sign", Edge.deskOf(false, -1, 100).longest(10, false), 1);
        Check.due("longest() plain", Edge.deskOf(false, 100, -1).longest(10, true), 1);
    }

    private static void flagsOfReading() {
        Check.sentence("Promise 12", PLAIN_READING);
        Check.due("read() of -5 with the sign", Check.deskWith("-5").read(0, 0, 2, 10, false), true);
        Check.due("read() of -5 plain", Check.deskWith("-5").read(0, 0, 2, 10, true), false);
        Check.due("read() of 2^31 with the sign", Check.deskWith("2147483648").read(0, 0, 10, 10, false), false);
        Check.due("read() of 2^31 plain", Check.deskWith("2147483648").read(0, 0, 10, 10, true), true);
        Check.sentence("Promise 19", PLAIN_READING);
        RadixDesk desk = Edge.deskOf(false, -5, 1L << 31);
        desk.writeTen(0, false);
        Check.due("readPage() of -5 with the sign", desk.readPage(2, 10, false), true);
        Check.due("readPage() of -5 plain", desk.readPage(2, 10, true), false);
        desk.writeTen(1, true);
        Check.due("readPage() of 2^31 with the sign", desk.readPage(2, 10, false), false);
        Check.due("readPage() of 2^31 plain", desk.readPage(2, 10, true), true);
    }

    private static void flagsOfNumbers() {
        Check.sentence("Promise 37", PLAIN_NUMBERS);
        RadixDesk divided = Edge.deskOf(false, -6, 4, 0, -6);
        divided.divide(0, 1, 2, false);
        Check.due("-6 by 4 with the sign", divided.number(0), -1);
        divided.divide(3, 1, 2, true);
        Check.due("-6 by 4 plain", divided.number(3), (1L << 30) - 2);
        Check.sentence("Promise 38", PLAIN_NUMBERS);
        Check.due("-6 and 4 with the sign", Edge.deskOf(false, -6, 4).compare(0, 1, false), -1);
        Check.due("-6 and 4 plain", Edge.deskOf(false, -6, 4).compare(0, 1, true), 1);
        Check.sentence("Promise 39", PLAIN_NUMBERS);
        RadixDesk sorted = Edge.deskOf(false, 4, -6, 3);
        Check.due("sort() with the sign", sorted.sort(false), 5);
        Check.due("the last cell then", sorted.number(7), 4);
        Check.due("sort() plain", sorted.sort(true), 4);
        Check.due("the last cell then", sorted.number(7), -6);
    }

    private static void namedKinds() {
        Check.sentence("Promise 14", "`kind`: HEX, OCTAL or BINARY");
        RadixDesk desk = Edge.deskOf(false, 0x1f);
        desk.writeBits(0, RadixDesk.HEX);
        Check.due("HEX", Check.page(desk), "1f");
        desk.writeBits(0, RadixDesk.OCTAL);
        Check.due("OCTAL", Check.page(desk), "37");
        desk.writeBits(0, RadixDesk.BINARY);
        Check.due("BINARY", Check.page(desk), "11111");
        Check.sentence("Promise 36", "`how`: ADD, SUBTRACT, MULTIPLY, AND, OR or XOR");
        Check.due("ADD", Edge.deskOf(false, 12, 10).combine(0, 1, RadixDesk.ADD), 22);
        Check.due("SUBTRACT", Edge.deskOf(false, 12, 10).combine(0, 1, RadixDesk.SUBTRACT), 2);
        Check.due("MULTIPLY", Edge.deskOf(false, 12, 10).combine(0, 1, RadixDesk.MULTIPLY), 120);
        Check.due("AND", Edge.deskOf(false, 12, 10).combine(0, 1, RadixDesk.AND), 8);
        Check.due("OR", Edge.deskOf(false, 12, 10).combine(0, 1, RadixDesk.OR), 14);
        Check.due("XOR", Edge.deskOf(false, 12, 10).combine(0, 1, RadixDesk.XOR), 6);
    }
}
