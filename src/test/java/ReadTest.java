/** Promises 12 and 19: reading a piece of the text, and the page. */
public final class ReadTest {
    private static final long LEFT_ALONE = 0x1234_5678_9abc_def0L;

    public static void main(String[] args) {
        pieces();
        rangeIfNarrow();
        rangeIfWide();
        everyRadix();
        bounds();
        readPage();
        Check.end();
    }

    /** Reads the whole text into cell 5; a cell that is left alone shows as LEFT_ALONE. */
    private static void due(boolean isWide, String text, int radix, boolean isPlain, boolean canBe, long bits) {
        RadixDesk desk = Check.deskWith(text);
        desk.setWide(isWide);
        desk.set(5, LEFT_ALONE);
        String what = "read " + text + " in radix " + radix + (isPlain ? " plain" : "") + (isWide ? " wide" : "");
        Check.due(what, desk.read(5, 0, text.length(), radix, isPlain), canBe);
        Check.due("bits after " + what, Check.bits(desk, 5), bits);
        Check.due("page after " + what, desk.pageLength(), 0);
    }

    private static void can(boolean isWide, String text, int radix, boolean isPlain, long bits) {
        due(isWide, text, radix, isPlain, true, bits);
    }

    private static void cannot(boolean isWide, String text, int radix, boolean isPlain) {
        due(isWide, text, radix, isPlain, false, LEFT_ALONE);
    }

    private static void pieces() {
        for (boolean isWide : new boolean[] {false, true}) {
            can(isWide, "0", 10, false, 0);
            can(isWide, "-0", 10, false, 0);
            can(isWide, "+0", 2, true, 0);
            can(isWide, "+17", 10, false, 17);
            can(isWide, "+17", 10, true, 17);
            can(isWide, "-17", 10, false, -17);
            can(isWide, "zZ", 36, false, 35 * 36 + 35);
            can(isWide, "aF", 16, true, 0xaf);
            can(isWide, "-Z", 36, false, -35);
            can(isWide, "0".repeat(200) + "7", 8, false, 7);
            can(isWide, "+" + "0".repeat(200), 8, true, 0);
            cannot(isWide, "", 10, false);
            cannot(isWide, "+", 10, false);
            cannot(isWide, "-", 10, false);
            cannot(isWide, "+", 10, true);
            cannot(isWide, "-0", 10, true);
            cannot(isWide, "-1", 10, true);
            cannot(isWide, "+-1", 10, false);
            cannot(isWide, "-+1", 10, false);
            cannot(isWide, "++1", 10, true);
            cannot(isWide, "--1", 10, false);
            cannot(isWide, "1-", 10, false);
            cannot(isWide, "1+1", 10, false);
            cannot(isWide, " 1", 10, false);
            cannot(isWide, "1 ", 10, false);
            cannot(isWide, "2", 2, false);
            cannot(isWide, "z", 35, false);
            cannot(isWide, "Z", 35, true);
            cannot(isWide, "a", 10, false);
            for (String one : new String[] {"/", ":", "@", "[", "`", "{", "\u00e9", "\u0001", "\u00ff", "\u00b1"}) {
                cannot(isWide, one, 36, false);
                cannot(isWide, "1" + one, 36, true);
            }
            for (int radix : new int[] {-1, 0, 1, 37, -10, Integer.MIN_VALUE, Integer.MAX_VALUE}) {
                cannot(isWide, "0", radix, false);
                cannot(isWide, "1", radix, true);
            }
        }
    }

    private static void rangeIfNarrow() {
        can(false, "2147483647", 10, false, Integer.MAX_VALUE);
        cannot(false, "2147483648", 10, false);
        cannot(false, "+2147483648", 10, false);
        can(false, "-2147483648", 10, false, Integer.MIN_VALUE);
        cannot(false, "-2147483649", 10, false);
        can(false, "2147483648", 10, true, Integer.MIN_VALUE);
        can(false, "4294967295", 10, true, -1);
        can(false, "+4294967295", 10, true, -1);
        cannot(false, "4294967296", 10, true);
        cannot(false, "9999999999", 10, true);
        cannot(false, "18446744073709551616", 10, true);
        cannot(false, "18446744073709551617", 10, false);
        can(false, "7fffffff", 16, false, Integer.MAX_VALUE);
        can(false, "ffffffff", 16, true, -1);
        cannot(false, "100000000", 16, true);
        cannot(false, "80000000", 16, false);
        cannot(false, "1" + "0".repeat(64), 2, true);
        cannot(false, "-" + "z".repeat(100), 36, false);
    }

    private static void rangeIfWide() {
        can(true, "9223372036854775807", 10, false, Long.MAX_VALUE);
        cannot(true, "9223372036854775808", 10, false);
        can(true, "-9223372036854775808", 10, false, Long.MIN_VALUE);
        cannot(true, "-9223372036854775809", 10, false);
        can(true, "9223372036854775808", 10, true, Long.MIN_VALUE);
        can(true, "18446744073709551615", 10, true, -1);
        cannot(true, "18446744073709551616", 10, true);
        cannot(true, "18446744073709551620", 10, true);
        cannot(true, "99999999999999999999", 10, true);
        cannot(true, "36893488147419103232", 10, true);
        can(true, "1".repeat(64), 2, true, -1);
        cannot(true, "1".repeat(64), 2, false);
        can(true, "1".repeat(63), 2, false, Long.MAX_VALUE);
        cannot(true, "1" + "0".repeat(64), 2, true);
        can(true, "-1" + "0".repeat(63), 2, false, Long.MIN_VALUE);
        cannot(true, "z".repeat(100), 36, true);
        can(true, "4294967296", 10, false, 1L << 32);
    }

    private static void everyRadix() {
        for (int radix = 2; radix <= 36; radix++) {
            for (long number : new long[] {Long.MIN_VALUE, -1, 0, 1, 123456789012345L, Long.MAX_VALUE}) {
                can(true, Long.toString(number, radix), radix, false, number);
                can(true, Long.toUnsignedString(number, radix), radix, true, number);
                int low = (int) number;
                can(false, Integer.toString(low, radix).toUpperCase(), radix, false, low);
                can(false, Integer.toUnsignedString(low, radix), radix, true, low);
            }
            String most = Long.toString(radix - 1, radix);
            can(false, most, radix, false, radix - 1);
            if (radix < 36) {
                cannot(false, Long.toString(radix, 36), radix, false);
            }
        }
    }

    private static void bounds() {
        RadixDesk desk = Check.deskWith("x12y");
        Check.due("read(0, 1, 3, 10, false)", desk.read(0, 1, 3, 10, false), true);
        Check.due("number(0)", desk.number(0), 12);
        Check.due("read of an empty piece at the end", desk.read(0, 4, 4, 10, false), false);
        Check.due("read(7, 2, 3, 10, true)", desk.read(7, 2, 3, 10, true), true);
        Check.due("number(7)", desk.number(7), 2);
        int most = Integer.MAX_VALUE;
        int least = Integer.MIN_VALUE;
        int[][] wrong = {
            {-1, 1, 3}, {8, 1, 3}, {0, -1, 3}, {0, 3, 1}, {0, 1, 5}, {0, 5, 5}, {0, 2, 1}, {0, -1, -1},
            {0, least, most}, {0, most, most}, {0, 0, most}, {0, most, least}, {most, 0, 1}, {least, 9, 0},
        };
        for (int[] w : wrong) {
            String what = "read(" + w[0] + ", " + w[1] + ", " + w[2] + ", ..)";
            RadixDesk other = Check.deskWith("x12y");
            Check.noCell(what, other, () -> other.read(w[0], w[1], w[2], 10, false));
            Check.noCell(what + " in radix 99", other, () -> other.read(w[0], w[1], w[2], 99, true));
        }
    }

    private static void readPage() {
        RadixDesk desk = new RadixDesk();
        Check.due("readPage of an empty page", desk.readPage(0, 10, false), false);
        desk.set(0, -35);
        desk.write(0, 36, false);
        desk.set(1, LEFT_ALONE);
        Check.due("readPage with the sign", desk.readPage(1, 36, false), true);
        Check.due("its bits", Check.bits(desk, 1), -35);
        desk.set(1, LEFT_ALONE);
        Check.due("readPage plain", desk.readPage(1, 36, true), false);
        Check.due("readPage in a radix too small", desk.readPage(1, 35, false), false);
        for (int radix : new int[] {1, 0, -1, 37, Integer.MIN_VALUE, Integer.MAX_VALUE}) {
            Check.due("readPage in radix " + radix, desk.readPage(1, radix, false), false);
        }
        Check.due("bits of what could not be read", Check.bits(desk, 1), LEFT_ALONE);
        desk.write(0, 2, true);
        Check.due("readPage of 32 ones with the sign", desk.readPage(1, 2, false), false);
        Check.due("readPage of 32 ones plain", desk.readPage(1, 2, true), true);
        Check.due("bits of 32 ones less 34", Check.bits(desk, 1), -35);
        desk.setWide(true);
        Check.due("readPage of them if wide", desk.readPage(2, 2, false), true);
        Check.due("number of them if wide", desk.number(2), 0xffff_ffffL - 34);
        Check.due("page after all", Check.page(desk), Integer.toUnsignedString(-35, 2));
        Check.noCell("readPage(8, ..)", desk, () -> desk.readPage(8, 10, false));
        Check.noCell("readPage(-1, ..)", desk, () -> desk.readPage(-1, 99, true));
    }
}
