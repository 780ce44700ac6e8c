/** Promises 1 to 6: a new object, the width, and what is put into cells. */
public final class CellsTest {
    public static void main(String[] args) {
        aNewObject();
        width();
        setAndNumber();
        fill();
        Check.end();
    }

    private static void aNewObject() {
        RadixDesk desk = new RadixDesk();
        Check.due("isWide() at first", desk.isWide(), false);
        Check.due("textLength() at first", desk.textLength(), 0);
        Check.due("pageLength() at first", desk.pageLength(), 0);
        for (int k = 0; k < 8; k++) {
            Check.due("bits of cell " + k + " at first", Check.bits(desk, k), 0);
        }
        desk.set(0, 5);
        Check.due("number(0) of another object", new RadixDesk().number(0), 0);
    }

    private static void width() {
        RadixDesk desk = new RadixDesk();
        desk.set(3, 0x1_8000_0000L);
        Check.due("setWide(true)", desk.setWide(true), false);
        Check.due("isWide()", desk.isWide(), true);
        Check.due("number(3) if wide", desk.number(3), 0x1_8000_0000L);
        Check.due("setWide(true) again", desk.setWide(true), true);
        Check.due("setWide(false)", desk.setWide(false), true);
        Check.due("isWide() then", desk.isWide(), false);
        Check.due("number(3) if narrow", desk.number(3), -0x8000_0000L);
        Check.due("setWide(false) again", desk.setWide(false), false);
        Check.due("bits of cell 3", Check.bits(desk, 3), 0x1_8000_0000L);
    }

    private static void setAndNumber() {
        RadixDesk desk = new RadixDesk();
        Check.due("set(7, MIN)", desk.set(7, Long.MIN_VALUE), 0);
        Check.due("number(7) if narrow", desk.number(7), 0);
        Check.due("bits of cell 7", Check.bits(desk, 7), Long.MIN_VALUE);
        Check.due("set(7, 2^32 - 1)", desk.set(7, 0xffff_ffffL), 0);
        Check.due("bits of cell 7 then", Check.bits(desk, 7), 0xffff_ffffL);
        Check.due("number(7) then", desk.number(7), -1);
        Check.due("set(7, 1)", desk.set(7, 1), -1);
        desk.setWide(true);
        Check.due("set(7, MAX) if wide", desk.set(7, Long.MAX_VALUE), 1);
        Check.due("set(7, 0) if wide", desk.set(7, 0), Long.MAX_VALUE);
        for (int cell : new int[] {-1, 8, Integer.MIN_VALUE, Integer.MAX_VALUE}) {
            Check.noCell("set(" + cell + ", 1)", desk, () -> desk.set(cell, 1));
            Check.noCell("number(" + cell + ")", desk, () -> desk.number(cell));
        }
    }

    private static void fill() {
        RadixDesk desk = new RadixDesk();
        Check.due("fill(10, -3)", desk.fill(10, -3), -11);
        for (int k = 0; k < 8; k++) {
            Check.due("bits of cell " + k, Check.bits(desk, k), 10 - 3 * k);
        }
        Check.due("fill(MAX, 2^32)", desk.fill(Long.MAX_VALUE, 1L << 32), -1);
        for (int k = 0; k < 8; k++) {
            Check.due("bits of cell " + k + " round", Check.bits(desk, k), Long.MAX_VALUE + k * (1L << 32));
        }
        desk.setWide(true);
        Check.due("fill(1, MIN) if wide", desk.fill(1, Long.MIN_VALUE), Long.MIN_VALUE + 1);
        Check.due("number(6)", desk.number(6), 1);
        Check.due("fill(0, 0)", desk.fill(0, 0), 0);
    }
}
