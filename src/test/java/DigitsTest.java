/** Promises 20 to 23: the digits of what write() would write. */
public final class DigitsTest {
    private static final long[] NUMBERS = {
        0, 1, -1, 7, -7, 121, -121, 1234, 0x8000_0001L, 0xffff_ffffL, 1L << 32, 0x1_0000_0001L,
        Integer.MIN_VALUE, Integer.MAX_VALUE, Long.MIN_VALUE, Long.MAX_VALUE, 0x1234_5678_9abc_def0L,
    };

    public static void main(String[] args) {
        for (long bits : NUMBERS) {
            for (int radix : new int[] {2, 3, 7, 8, 10, 11, 16, 35, 36, 1, 0, -2, 37, Integer.MIN_VALUE}) {
                for (int way = 0; way < 4; way++) {
                    allDigits(bits, radix, way % 2 == 1, way > 1);
                }
            }
        }
        noSuchDigit();
        mirrors();
        longest();
        wrongCells();
        Check.end();
    }

    private static String digits(long bits, int radix, boolean isPlain, boolean isWide) {
        int base = radix < 2 || radix > 36 ? 10 : radix;
        int low = (int) bits;
        if (isPlain) {
            return isWide ? Long.toUnsignedString(bits, base) : Integer.toUnsignedString(low, base);
        }
        return (isWide ? Long.toString(bits, base) : Integer.toString(low, base)).replace("-", "");
    }

    private static void allDigits(long bits, int radix, boolean isPlain, boolean isWide) {
        RadixDesk desk = new RadixDesk();
        desk.setWide(isWide);
        desk.set(6, bits);
        desk.set(0, 99);
        desk.write(0, 10, false);
        String want = digits(bits, radix, isPlain, isWide);
        String what = " of " + bits + " in radix " + radix + (isPlain ? " plain" : "") + (isWide ? " wide" : "");
        int sum = 0;
        for (int k = 0; k < want.length(); k++) {
            int digit = Character.digit(want.charAt(want.length() - 1 - k), 36);
            sum += digit;
            Check.due("digitAt " + k + what, desk.digitAt(6, radix, k, isPlain), digit);
        }
        Check.fails("digitAt " + want.length() + what, java.util.NoSuchElementException.class, desk,
            () -> desk.digitAt(6, radix, want.length(), isPlain));
        Check.due("digitSum" + what, desk.digitSum(6, radix, isPlain), sum);
        boolean isMirror = new StringBuilder(want).reverse().toString().equals(want);
        Check.due("isMirror" + what, desk.isMirror(6, radix, isPlain), isMirror);
        Check.due("page after all" + what, Check.page(desk), "99");
        Check.due("bits after all" + what, Check.bits(desk, 6), bits);
    }

    private static void noSuchDigit() {
        RadixDesk desk = new RadixDesk();
        desk.set(0, -12);
        for (int index : new int[] {-1, 2, 3, Integer.MIN_VALUE, Integer.MAX_VALUE}) {
            Check.fails("digitAt " + index + " of -12", java.util.NoSuchElementException.class, desk,
                () -> desk.digitAt(0, 10, index, false));
            Check.noCell("digitAt " + index + " of cell 8", desk, () -> desk.digitAt(8, 10, index, false));
        }
    }

    private static void mirrors() {
        RadixDesk desk = new RadixDesk();
        desk.set(0, -12321);
        desk.set(1, 1221);
        desk.set(2, 1231);
        desk.set(3, -5);
        desk.set(4, 10);
        Check.due("isMirror of -12321", desk.isMirror(0, 10, false), true);
        Check.due("isMirror of 1221", desk.isMirror(1, 10, false), true);
        Check.due("isMirror of 1231", desk.isMirror(2, 10, false), false);
        Check.due("isMirror of -5", desk.isMirror(3, 10, false), true);
        Check.due("isMirror of -5 plain in radix 2", desk.isMirror(3, 2, true), false);
        Check.due("isMirror of 10", desk.isMirror(4, 10, false), false);
        Check.due("isMirror of 10 in radix 9", desk.isMirror(4, 9, false), true);
    }

    private static void longest() {
        RadixDesk desk = new RadixDesk();
        Check.due("longest of all 0", desk.longest(10, false), 0);
        desk.fill(10, 1);
        Check.due("longest of 10 to 17", desk.longest(10, true), 0);
        desk.set(5, -10);
        Check.due("longest if a minus counts", desk.longest(10, false), 5);
        desk.set(3, 100);
        Check.due("longest of several", desk.longest(10, false), 3);
        Check.due("longest of plain ones", desk.longest(10, true), 5);
        desk.set(7, 1L << 40);
        Check.due("longest if narrow", desk.longest(2, true), 5);
        desk.set(5, 0);
        desk.setWide(true);
        Check.due("longest if wide", desk.longest(2, true), 7);
        for (int radix : new int[] {1, 0, -1, 37, Integer.MIN_VALUE, Integer.MAX_VALUE}) {
            desk.fill(0, 0);
            desk.set(1, 9);
            desk.set(2, 10);
            desk.set(6, 36);
            desk.set(7, 100);
            Check.due("longest in radix " + radix, desk.longest(radix, false), 7);
        }
        Check.due("page after longest", desk.pageLength(), 0);
    }

    private static void wrongCells() {
        RadixDesk desk = new RadixDesk();
        for (int cell : new int[] {-1, 8, Integer.MIN_VALUE, Integer.MAX_VALUE}) {
            Check.noCell("digitAt(" + cell + ", ..)", desk, () -> desk.digitAt(cell, 10, 0, false));
            Check.noCell("digitSum(" + cell + ", ..)", desk, () -> desk.digitSum(cell, 10, true));
            Check.noCell("isMirror(" + cell + ", ..)", desk, () -> desk.isMirror(cell, 10, false));
        }
    }
}
