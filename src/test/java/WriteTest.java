/** Promises 13 to 18: writing on the page, and copying it. */
public final class WriteTest {
    private static final long[] NUMBERS = {
        0, 1, -1, 9, 10, 35, 36, 255, -255, Integer.MAX_VALUE, Integer.MIN_VALUE, 1L << 31, 1L << 32,
        0xffff_ffffL, -0x1_0000_0000L, 0x1_0000_0001L, Long.MAX_VALUE, Long.MIN_VALUE, Long.MIN_VALUE + 1,
        0x1234_5678_9abc_def0L, 0xfedc_ba98_7654_3210L,
    };

    public static void main(String[] args) {
        everyRadix();
        otherRadix();
        kinds();
        ten();
        pageBytes();
        copying();
        wrongCells();
        Check.end();
    }

    private static String due(long bits, int radix, boolean isPlain, boolean isWide) {
        int low = (int) bits;
        if (isPlain) {
            return isWide ? Long.toUnsignedString(bits, radix) : Integer.toUnsignedString(low, radix);
        }
        return isWide ? Long.toString(bits, radix) : Integer.toString(low, radix);
    }

    private static void checkPage(RadixDesk desk, String what, int length, String want) {
        Check.due(what, length, want.length());
        Check.due("pageLength() after " + what, desk.pageLength(), want.length());
        Check.due("page of " + what, Check.page(desk), want);
    }

    private static RadixDesk deskOf(long bits, boolean isWide) {
        RadixDesk desk = new RadixDesk();
        desk.setWide(isWide);
        desk.set(4, bits);
        return desk;
    }

    private static void everyRadix() {
        for (long bits : NUMBERS) {
            for (int radix = 2; radix <= 36; radix++) {
                for (int way = 0; way < 4; way++) {
                    boolean isPlain = way % 2 == 1;
                    boolean isWide = way > 1;
                    RadixDesk desk = deskOf(bits, isWide);
                    String what = "write " + bits + " in radix " + radix + " way " + way;
                    checkPage(desk, what, desk.write(4, radix, isPlain), due(bits, radix, isPlain, isWide));
                    Check.due("bits after " + what, Check.bits(desk, 4), bits);
                }
            }
        }
    }

    private static void otherRadix() {
        for (int radix : new int[] {1, 0, -1, 37, -16, Integer.MIN_VALUE, Integer.MAX_VALUE}) {
            RadixDesk desk = deskOf(-1234567890123L, true);
            checkPage(desk, "write in radix " + radix, desk.write(4, radix, false), "-1234567890123");
            checkPage(desk, "write plain in radix " + radix, desk.write(4, radix, true), "18446742839141661493");
        }
    }

    private static void kinds() {
        for (long bits : NUMBERS) {
            for (boolean isWide : new boolean[] {false, true}) {
                RadixDesk desk = deskOf(bits, isWide);
                checkPage(desk, "HEX of " + bits, desk.writeBits(4, RadixDesk.HEX), due(bits, 16, true, isWide));
                checkPage(desk, "OCTAL of " + bits, desk.writeBits(4, RadixDesk.OCTAL), due(bits, 8, true, isWide));
                checkPage(desk, "BINARY of " + bits, desk.writeBits(4, RadixDesk.BINARY), due(bits, 2, true, isWide));
            }
        }
        RadixDesk desk = deskOf(77, false);
        desk.write(4, 10, false);
        for (int kind : new int[] {-1, 3, Integer.MIN_VALUE, Integer.MAX_VALUE}) {
            String what = "writeBits of kind " + kind;
            Check.fails(what, IllegalArgumentException.class, desk, () -> desk.writeBits(4, kind));
            Check.noCell(what + " and cell 8", desk, () -> desk.writeBits(8, kind));
        }
    }

    private static void ten() {
        for (long bits : NUMBERS) {
            for (boolean isWide : new boolean[] {false, true}) {
                RadixDesk desk = deskOf(bits, isWide);
                checkPage(desk, "writeTen of " + bits, desk.writeTen(4, false), due(bits, 10, false, isWide));
                checkPage(desk, "plain writeTen of " + bits, desk.writeTen(4, true), due(bits, 10, true, isWide));
            }
        }
    }

    private static void pageBytes() {
        RadixDesk desk = deskOf(-42, false);
        Check.noCell("pageAt(0) of an empty page", desk, () -> desk.pageAt(0));
        desk.write(4, 10, false);
        Check.due("pageAt(0)", desk.pageAt(0), '-');
        Check.due("pageAt(1)", desk.pageAt(1), '4');
        Check.due("pageAt(2)", desk.pageAt(2), '2');
        for (int index : new int[] {-1, 3, Integer.MIN_VALUE, Integer.MAX_VALUE}) {
            Check.noCell("pageAt(" + index + ")", desk, () -> desk.pageAt(index));
        }
        desk.set(4, 7);
        desk.write(4, 10, false);
        Check.noCell("pageAt(1) of a shorter page", desk, () -> desk.pageAt(1));
    }

    private static void copying() {
        RadixDesk desk = deskOf(Long.MIN_VALUE, true);
        Check.due("copyPage() of an empty page", desk.copyPage(), 0);
        desk.write(4, 2, false);
        Check.due("the longest page", desk.pageLength(), 65);
        desk.type('x');
        for (int k = 1; k <= 4; k++) {
            Check.due("copyPage() " + k, desk.copyPage(), 1 + 65 * k);
        }
        Check.fails("copyPage() of 65 behind 261", IllegalStateException.class, desk, desk::copyPage);
        Check.due("textAt(0)", desk.textAt(0), 'x');
        Check.due("textAt(1)", desk.textAt(1), '-');
        Check.due("textAt(2)", desk.textAt(2), '1');
        Check.due("textAt(260)", desk.textAt(260), '0');
        RadixDesk full = new RadixDesk();
        Check.due("copyPage() of nothing behind 300", fillUp(full).copyPage(), 300);
        full.clearText();
        full.set(0, (1L << 31) - 1);
        full.write(0, 2, false);
        for (int k = 1; k <= 9; k++) {
            full.copyPage();
        }
        full.type(0x61_6262_6262_6262L);
        full.type(0x61_6262_6262_6262L);
        Check.due("length of 279 and 14", full.textLength(), 293);
        full.write(0, 16, false);
        Check.fails("copyPage() of 8 behind 293", IllegalStateException.class, full, full::copyPage);
        full.set(0, 0xfffffff);
        full.write(0, 16, false);
        Check.due("copyPage() of 7 behind 293", full.copyPage(), 300);
        Check.due("the page stays", Check.page(full), "fffffff");
        Check.fails("copyPage() of 7 behind 300", IllegalStateException.class, full, full::copyPage);
    }

    private static RadixDesk fillUp(RadixDesk desk) {
        for (int k = 0; k < 38; k++) {
            desk.type(k < 37 ? 0x6161_6161_6161_6161L : 0x6161_6161L);
        }
        return desk;
    }

    private static void wrongCells() {
        RadixDesk desk = deskOf(12, false);
        desk.write(4, 10, false);
        for (int cell : new int[] {-1, 8, Integer.MIN_VALUE, Integer.MAX_VALUE}) {
            Check.noCell("write(" + cell + ", ..)", desk, () -> desk.write(cell, 2, false));
            Check.noCell("writeBits(" + cell + ", ..)", desk, () -> desk.writeBits(cell, 0));
            Check.noCell("writeTen(" + cell + ", ..)", desk, () -> desk.writeTen(cell, true));
        }
    }
}
