import java.math.BigInteger;

/** Terms 3 and promises 13 to 15 and 20 to 23: numbers written at the ends of digits, radixes and widths. */
final class WritingEdges {
    private static final String NO_CELL = "Throws `IndexOutOfBoundsException` if there is no such cell";
    private static final String LENGTH_OF_PAGE = "Returns the length of the page.";
    private static final Class<?> NO_DIGIT = java.util.NoSuchElementException.class;
    private static final long[] NUMBERS = {
        0, 1, -1, 9, 10, 35, 36, -36, Integer.MAX_VALUE, Integer.MIN_VALUE, 0xffff_ffffL, 0x1_0000_0000L,
        -0x1_0000_0000L, Long.MAX_VALUE, Long.MIN_VALUE, Long.MIN_VALUE + 1, 0x1234_5678_9abc_def0L,
    };

    private WritingEdges() {
    }

    static void run() {
        digits();
        signsAndSizes();
        otherRadixes();
        lastPage();
        write();
        writeBits();
        writeTen();
        digitAt();
        noSuchDigit();
        digitSum();
        isMirror();
        longest();
    }

    private static BigInteger value(long bits, boolean isWide, boolean isPlain) {
        BigInteger plain = BigInteger.valueOf(bits).mod(BigInteger.TWO.pow(isWide ? 64 : 32));
        boolean isBelow = !isPlain && plain.testBit(isWide ? 63 : 31);
        return isBelow ? plain.subtract(BigInteger.TWO.pow(isWide ? 64 : 32)) : plain;
    }

    private static String page(boolean isWide, long bits, int radix, boolean isPlain) {
        RadixDesk desk = Edge.deskOf(isWide, bits);
        desk.write(0, radix, isPlain);
        return Check.page(desk);
    }

    private static String what(long bits, int radix, boolean isWide, boolean isPlain) {
        return bits + " in radix " + radix + (isPlain ? " plain" : "") + Edge.width(isWide);
    }

    private static void digits() {
        Check.sentence("Terms 3", "The digits are 0 to 9 and the letters a to z, which stand for 10 to 35.");
        String all = "0123456789abcdefghijklmnopqrstuvwxyz";
        for (int digit = 0; digit < 36; digit++) {
            Check.due("digit " + digit, page(false, digit, 36, false), all.substring(digit, digit + 1));
            RadixDesk desk = Check.deskWith(all);
            Check.due("read of digit " + digit, desk.read(0, digit, digit + 1, 36, false), true);
            Check.due("its number", desk.number(0), digit);
        }
    }

    private static void signsAndSizes() {
        Check.sentence("Terms 3", "To write a number in a radix: a minus (45) if it is below 0,");
        for (boolean isWide : Edge.BOTH) {
            Check.due("page of 0" + Edge.width(isWide), page(isWide, 0, 10, false), "0");
            Check.due("page of -1" + Edge.width(isWide), page(isWide, -1, 10, false), "-1");
            Check.due("page of 1" + Edge.width(isWide), page(isWide, 1, 10, false), "1");
        }
        Check.due("page of 2^31 (narrow)", page(false, 1L << 31, 10, false), "-2147483648");
        Check.due("page of 2^31 (wide)", page(true, 1L << 31, 10, false), "2147483648");
        Check.due("page of 2^31 - 1", page(false, Integer.MAX_VALUE, 10, false), "2147483647");
        Check.due("page of 2^63", page(true, 1L << 63, 10, false), "-9223372036854775808");
        Check.due("page of 2^63 - 1", page(true, Long.MAX_VALUE, 10, false), "9223372036854775807");
        Check.sentence("Terms 3", "and then its size in digits of this radix, the highest one first, as few as possible,"
            + " but at least one.");
        for (int radix = 2; radix <= 36; radix++) {
            Check.due("page of 0 in radix " + radix, page(true, 0, radix, false), "0");
            long power = 1;
            for (int zeros = 1; power <= Long.MAX_VALUE / radix; zeros++) {
                power *= radix;
                String one = "1" + "0".repeat(zeros);
                String most = Integer.toString(radix - 1, radix).repeat(zeros);
                Check.due("page of " + power + " in radix " + radix, page(true, power, radix, false), one);
                Check.due("page of 1 less in radix " + radix, page(true, power - 1, radix, false), most);
                Check.due("page below 0 in radix " + radix, page(true, -power, radix, false), "-" + one);
            }
        }
        Check.sentence("Terms 3", "A plain number is written likewise.");
        for (int radix = 2; radix <= 36; radix++) {
            for (long bits : NUMBERS) {
                for (boolean isWide : Edge.BOTH) {
                    Check.due("page of " + what(bits, radix, isWide, true), page(isWide, bits, radix, true),
                        value(bits, isWide, true).toString(radix));
                }
            }
        }
    }

    private static void otherRadixes() {
        Check.sentence("Terms 3", "If the radix is not 2 to 36, 10 is taken in its place.");
        for (boolean isPlain : Edge.BOTH) {
            for (int radix : Edge.NO_RADIXES) {
                String ten = isPlain ? "4294967259" : "-37";
                Check.due("page in radix " + radix, page(false, -37, radix, isPlain), ten);
                RadixDesk desk = Edge.deskOf(false, -37);
                Check.due("digitAt in radix " + radix, desk.digitAt(0, radix, 0, isPlain), isPlain ? 9 : 7);
                Check.due("digitSum in radix " + radix, desk.digitSum(0, radix, isPlain), isPlain ? 57 : 10);
                Check.due("isMirror in radix " + radix, desk.isMirror(0, radix, isPlain), false);
                RadixDesk two = Edge.deskOf(false, 9, 10, 99, 100, 15);
                Check.due("longest in radix " + radix, two.longest(radix, isPlain), 3);
            }
        }
        Check.due("page in radix 2", page(false, -37, 2, false), "-100101");
        Check.due("page in radix 36", page(false, -37, 36, false), "-11");
    }

    private static void lastPage() {
        Check.sentence("Terms 3", "The page has what was written last (nothing at first).");
        Check.due("page at first", Check.page(new RadixDesk()), "");
        RadixDesk desk = Edge.deskOf(true, Long.MIN_VALUE, 5, -1);
        desk.write(0, 2, false);
        Check.due("page of write()", Check.page(desk), "-1" + "0".repeat(63));
        desk.writeBits(2, RadixDesk.OCTAL);
        Check.due("page of writeBits()", Check.page(desk), "1" + "7".repeat(21));
        desk.writeTen(1, true);
        Check.due("page of writeTen()", Check.page(desk), "5");
        desk.digitAt(0, 2, 0, false);
        desk.digitSum(0, 2, false);
        desk.isMirror(0, 2, false);
        desk.longest(2, false);
        desk.errors();
        desk.set(1, 77);
        desk.setWide(false);
        Check.due("page after other calls", Check.page(desk), "5");
    }

    private static void write() {
        Check.sentence("Promise 13", "Writes the number of a cell, or its plain number, on the page.");
        for (int radix = 2; radix <= 36; radix++) {
            for (long bits : NUMBERS) {
                for (int way = 0; way < 4; way++) {
                    boolean isPlain = way % 2 == 1;
                    Check.due("page of " + what(bits, radix, way > 1, isPlain), page(way > 1, bits, radix, isPlain),
                        value(bits, way > 1, isPlain).toString(radix));
                }
            }
        }
        RadixDesk busy = Edge.busy(true);
        busy.write(7, 16, false);
        busy.setWide(false);
        busy.write(7, 7, false);
        Check.due("the desk but its page", Check.wholeState(busy), Check.wholeState(Edge.busy(false)));
        Check.sentence("Promise 13", LENGTH_OF_PAGE);
        Check.due("write() of 0", new RadixDesk().write(0, 2, false), 1);
        Check.due("write() of -2^31", Edge.deskOf(false, Integer.MIN_VALUE).write(0, 2, false), 33);
        Check.due("write() of -2^31 plain", Edge.deskOf(false, Integer.MIN_VALUE).write(0, 2, true), 32);
        Check.due("write() of -2^63", Edge.deskOf(true, Long.MIN_VALUE).write(0, 2, false), 65);
        Check.due("write() of -1 plain (wide)", Edge.deskOf(true, -1).write(0, 2, true), 64);
        Check.due("write() of -1 plain (wide) in 36", Edge.deskOf(true, -1).write(0, 36, true), 13);
        Check.sentence("Promise 13", NO_CELL);
        Edge.cells("write", (desk, cell) -> desk.write(cell, 10, false));
        Edge.cells("write plain in no radix", (desk, cell) -> desk.write(cell, 37, true));
    }

    private static void writeBits() {
        Check.sentence("Promise 14", "Writes the plain number of a cell on the page, in the radix 16, 8 or 2.");
        int[] radixes = {16, 8, 2};
        for (boolean isWide : Edge.BOTH) {
            for (int kind = RadixDesk.HEX; kind <= RadixDesk.BINARY; kind++) {
                for (long bits : NUMBERS) {
                    RadixDesk desk = Edge.deskOf(isWide, bits);
                    desk.writeBits(0, kind);
                    Check.due("writeBits() of " + what(bits, radixes[kind], isWide, true), Check.page(desk),
                        value(bits, isWide, true).toString(radixes[kind]));
                }
            }
        }
        Check.sentence("Promise 14", LENGTH_OF_PAGE);
        int[] narrow = {8, 11, 32};
        int[] wide = {16, 22, 64};
        for (int kind = 0; kind < 3; kind++) {
            Check.due("writeBits() of -1 (narrow)", Edge.deskOf(false, -1).writeBits(0, kind), narrow[kind]);
            Check.due("writeBits() of -1 (wide)", Edge.deskOf(true, -1).writeBits(0, kind), wide[kind]);
            Check.due("writeBits() of 0", Edge.deskOf(true, 0).writeBits(0, kind), 1);
        }
        Check.sentence("Promise 14", NO_CELL);
        for (int kind = 0; kind < 3; kind++) {
            int taken = kind;
            Edge.cells("writeBits by " + kind, (desk, cell) -> desk.writeBits(cell, taken));
        }
        Check.sentence("Promise 14", "Throws `IllegalArgumentException` if there is no such kind");
        for (int kind : new int[] {-1, 3, 8, 16, 2 + 256, Integer.MIN_VALUE, Integer.MAX_VALUE}) {
            Edge.refused("writeBits by " + kind, IllegalArgumentException.class, desk -> desk.writeBits(0, kind));
            Edge.refused("writeBits of 7 by " + kind, IllegalArgumentException.class, desk -> desk.writeBits(7, kind));
        }
    }

    private static void writeTen() {
        Check.sentence("Promise 15", "Writes the number of a cell, or its plain number, on the page, in the radix 10.");
        for (int way = 0; way < 4; way++) {
            boolean isPlain = way % 2 == 1;
            for (long bits : NUMBERS) {
                RadixDesk desk = Edge.deskOf(way > 1, bits);
                desk.writeTen(0, isPlain);
                Check.due("writeTen() of " + what(bits, 10, way > 1, isPlain), Check.page(desk),
                    value(bits, way > 1, isPlain).toString());
            }
        }
        Check.sentence("Promise 15", LENGTH_OF_PAGE);
        Check.due("writeTen() of 0", new RadixDesk().writeTen(0, false), 1);
        Check.due("writeTen() of -2^31", Edge.deskOf(false, 1L << 31).writeTen(0, false), 11);
        Check.due("writeTen() of -2^31 plain", Edge.deskOf(false, 1L << 31).writeTen(0, true), 10);
        Check.due("writeTen() of -2^63", Edge.deskOf(true, 1L << 63).writeTen(0, false), 20);
        Check.due("writeTen() of -2^63 plain", Edge.deskOf(true, 1L << 63).writeTen(0, true), 19);
        Check.due("writeTen() of -1 plain (wide)", Edge.deskOf(true, -1).writeTen(0, true), 20);
        Check.sentence("Promise 15", NO_CELL);
        Edge.cells("writeTen", (desk, cell) -> desk.writeTen(cell, false));
        Edge.cells("writeTen plain", (desk, cell) -> desk.writeTen(cell, true));
    }

    private static String digitsOf(long bits, int radix, boolean isWide, boolean isPlain) {
        return value(bits, isWide, isPlain).abs().toString(radix);
    }

    private static void digitAt() {
        Check.sentence("Promise 20", "Returns a digit of what write() would write.");
        for (int radix : new int[] {2, 3, 10, 11, 35, 36}) {
            for (int way = 0; way < 4; way++) {
                boolean isPlain = way % 2 == 1;
                for (long bits : NUMBERS) {
                    String digits = digitsOf(bits, radix, way > 1, isPlain);
                    RadixDesk desk = Edge.deskOf(way > 1, 0, 0, bits);
                    for (int k = 0; k < digits.length(); k++) {
                        int due = Character.digit(digits.charAt(digits.length() - 1 - k), 36);
                        Check.due("digit " + k + " of " + what(bits, radix, way > 1, isPlain),
                            desk.digitAt(2, radix, k, isPlain), due);
                    }
                }
            }
        }
        Edge.changesNothing("digitAt()", desk -> desk.digitAt(7, 7, 1, false));
        Check.sentence("Promise 20", "Returns what the digit stands for.");
        for (int digit = 0; digit < 36; digit++) {
            Check.due("the digit " + digit, Edge.deskOf(false, 36 + digit).digitAt(0, 36, 0, false), digit);
            Check.due("the digit " + digit + " in front", Edge.deskOf(false, -digit * 36).digitAt(0, 36,
                digit == 0 ? 0 : 1, false), digit);
        }
        Check.sentence("Promise 20", NO_CELL);
        Edge.cells("digitAt", (desk, cell) -> desk.digitAt(cell, 2, 0, false));
        for (int cell : Edge.NO_CELLS) {
            Edge.refused("digitAt -1 of cell " + cell, IndexOutOfBoundsException.class,
                desk -> desk.digitAt(cell, 2, -1, true));
        }
    }

    private static void noSuchDigit() {
        Check.sentence("Promise 20", "Throws `NoSuchElementException` if there is no such digit (a minus is none)");
        for (int radix : new int[] {2, 10, 36, 37}) {
            for (int way = 0; way < 4; way++) {
                boolean isPlain = way % 2 == 1;
                boolean isWide = way > 1;
                for (long bits : new long[] {0, 9, -9, -1, Integer.MIN_VALUE, Long.MIN_VALUE}) {
                    int length = digitsOf(bits, radix == 37 ? 10 : radix, isWide, isPlain).length();
                    String of = " of " + what(bits, radix, isWide, isPlain);
                    for (int index : new int[] {-1, length, length + 1, Integer.MIN_VALUE, Integer.MAX_VALUE}) {
                        Edge.refused("digit " + index + of, NO_DIGIT, () -> Edge.deskOf(isWide, bits),
                            desk -> desk.digitAt(0, radix, index, isPlain));
                    }
                    Edge.taken("digit " + (length - 1) + of, Edge.deskOf(isWide, bits),
                        desk -> desk.digitAt(0, radix, length - 1, isPlain));
                }
            }
        }
        Edge.refused("digit 64 of a busy desk", NO_DIGIT, desk -> desk.digitAt(7, 2, 64, false));
    }

    private static void digitSum() {
        Check.sentence("Promise 21", "Adds up all digits of what write() would write.");
        for (int radix = 2; radix <= 36; radix++) {
            for (int way = 0; way < 4; way++) {
                boolean isPlain = way % 2 == 1;
                for (long bits : NUMBERS) {
                    int due = 0;
                    for (char digit : digitsOf(bits, radix, way > 1, isPlain).toCharArray()) {
                        due += Character.digit(digit, 36);
                    }
                    Check.due("digitSum() of " + what(bits, radix, way > 1, isPlain),
                        Edge.deskOf(way > 1, bits).digitSum(0, radix, isPlain), due);
                }
            }
        }
        Check.sentence("Promise 21", "Returns what they stand for, added up.");
        Check.due("digitSum() of 0", new RadixDesk().digitSum(0, 10, false), 0);
        Check.due("digitSum() of -12", Edge.deskOf(false, -12).digitSum(0, 10, false), 3);
        Check.due("digitSum() of 64 ones", Edge.deskOf(true, -1).digitSum(0, 2, true), 64);
        Edge.changesNothing("digitSum()", desk -> desk.digitSum(7, 2, false));
        Check.sentence("Promise 21", NO_CELL);
        Edge.cells("digitSum", (desk, cell) -> desk.digitSum(cell, 10, false));
        Edge.cells("digitSum plain in no radix", (desk, cell) -> desk.digitSum(cell, 1, true));
    }

    private static void mirror(long number, int radix, boolean isPlain, boolean due) {
        Check.due("isMirror() of " + what(number, radix, false, isPlain),
            Edge.deskOf(false, number).isMirror(0, radix, isPlain), due);
    }

    private static void isMirror() {
        Check.sentence("Promise 22", "Tells whether the digits of what write() would write, without a minus, are the"
            + " same from the front and from the back.");
        mirror(0, 10, false, true);
        mirror(7, 10, false, true);
        mirror(-7, 10, false, true);
        mirror(10, 10, false, false);
        mirror(11, 10, false, true);
        mirror(-11, 10, false, true);
        mirror(-12, 10, false, false);
        mirror(12, 11, false, true);
        mirror(121, 10, false, true);
        mirror(-122, 10, false, false);
        mirror(123321, 10, false, true);
        mirror(123421, 10, false, false);
        mirror(-1234321, 10, false, true);
        mirror(1234221, 10, false, false);
        mirror(1234331, 10, false, false);
        mirror(-1, 2, true, true);
        mirror(-1, 10, true, false);
        mirror(-2, 2, true, false);
        mirror(Integer.MIN_VALUE + 1, 2, false, true);
        mirror(Integer.MIN_VALUE + 1, 2, true, true);
        mirror(Integer.MIN_VALUE, 2, true, false);
        mirror((1L << 32) + 1, 10, false, true);
        Check.sentence("Promise 22", "Returns whether they are.");
        for (int radix = 2; radix <= 36; radix++) {
            for (int way = 0; way < 4; way++) {
                boolean isPlain = way % 2 == 1;
                for (long bits : NUMBERS) {
                    String digits = digitsOf(bits, radix, way > 1, isPlain);
                    Check.due("isMirror() of " + what(bits, radix, way > 1, isPlain),
                        Edge.deskOf(way > 1, bits).isMirror(0, radix, isPlain),
                        new StringBuilder(digits).reverse().toString().equals(digits));
                }
            }
        }
        Edge.changesNothing("isMirror()", desk -> desk.isMirror(7, 2, false));
        Check.sentence("Promise 22", NO_CELL);
        Edge.cells("isMirror", (desk, cell) -> desk.isMirror(cell, 10, false));
        Edge.cells("isMirror plain in no radix", (desk, cell) -> desk.isMirror(cell, 0, true));
    }

    private static void longest() {
        Check.sentence("Promise 23", "Returns the cell of which write() would write most bytes (a minus counts);");
        for (int cell = 0; cell < 8; cell++) {
            RadixDesk desk = new RadixDesk();
            desk.set(cell, 10);
            Check.due("longest() if it is " + cell, desk.longest(10, false), cell);
            Check.due("longest() plain if it is " + cell, desk.longest(10, true), cell);
        }
        Check.due("a minus counts", Edge.deskOf(false, 9, -9).longest(10, false), 1);
        Check.due("no minus of a plain number", Edge.deskOf(false, -9, 9).longest(10, true), 0);
        Check.due("-9 and 10", Edge.deskOf(false, 0, 10, -9).longest(10, false), 1);
        Check.due("-10 and 99", Edge.deskOf(false, 99, -10).longest(10, false), 1);
        Check.due("upper bits (narrow)", Edge.deskOf(false, 1, 1L << 40, 2).longest(2, true), 2);
        Check.due("upper bits (wide)", Edge.deskOf(true, 1, 1L << 40, 2).longest(2, true), 1);
        Check.due("2^63 and -2^63", Edge.deskOf(true, Long.MAX_VALUE, Long.MIN_VALUE, -1).longest(2, false), 1);
        Check.due("2^63 and -1 plain", Edge.deskOf(true, Long.MAX_VALUE, -1, Long.MIN_VALUE).longest(2, true), 1);
        Edge.changesNothing("longest()", desk -> desk.longest(2, false));
        Check.sentence("Promise 23", "of several ones the first cell.");
        Check.due("longest() of all 0", new RadixDesk().longest(2, false), 0);
        Check.due("longest() of all 1", Edge.deskOf(false, 1, 1, 1, 1, 1, 1, 1, 1).longest(2, true), 0);
        Check.due("longest() of two", Edge.deskOf(false, 1, 1, 10, 10, 11, 9, 99).longest(10, false), 2);
        Check.due("-9 and 99 and 10", Edge.deskOf(false, 0, -9, 99, 10).longest(10, false), 1);
        Check.sentence("Promise 23", "Returns the number of the cell.");
        Check.due("longest() of the last", Edge.deskOf(false, 0, 1, 2, 3, 4, 5, 6, 10).longest(10, true), 7);
        for (int radix = 2; radix <= 36; radix++) {
            int one = radix - 1;
            Check.due("in radix " + radix, Edge.deskOf(true, one, one, -one, radix, 0).longest(radix, false), 2);
            Check.due("plain in radix " + radix, Edge.deskOf(true, one, one, 0, radix, radix).longest(radix, true), 3);
        }
    }
}
