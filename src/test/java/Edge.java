import java.util.function.Consumer;
import java.util.function.Supplier;

/** What the tests of single sentences use: desks, inputs that are out of range, and calls that must be refused. */
final class Edge {
    static final int[] NO_CELLS = {-1, 8, 9, 256, Integer.MIN_VALUE, Integer.MAX_VALUE};
    static final int[] NO_RADIXES = {1, 37, 0, -1, -2, -10, -16, -36, 258, Integer.MIN_VALUE, Integer.MAX_VALUE};
    static final boolean[] BOTH = {false, true};

    private Edge() {
    }

    /** A call that is told a cell. */
    interface CellCall {
        void on(RadixDesk desk, int cell);
    }

    /** Cells, a text and a page that would all show a change; no cell's upper half is like its bit 31. */
    static RadixDesk busy(boolean isWide) {
        RadixDesk desk = Check.deskWith("set 0 77; 12z");
        desk.fill(0x1234_5678_89ab_cdefL, 0x0101_0101_0101_0101L);
        desk.set(7, -0x1_0000_0000L - 41);
        desk.write(7, 7, false);
        desk.setWide(isWide);
        return desk;
    }

    static RadixDesk deskOf(boolean isWide, long... bits) {
        RadixDesk desk = new RadixDesk();
        desk.setWide(isWide);
        for (int k = 0; k < bits.length; k++) {
            desk.set(k, bits[k]);
        }
        return desk;
    }

    /** A text of so many bytes, no two neighbours the same. */
    static String signs(int count) {
        StringBuilder all = new StringBuilder();
        for (int k = 0; k < count; k++) {
            all.append((char) ('a' + k % 26));
        }
        return all.toString();
    }

    static String width(boolean isWide) {
        return isWide ? " (wide)" : " (narrow)";
    }

    /** What 64 bits a cell has, if these are put into it. */
    static long put(long bits, boolean isWide) {
        return isWide ? bits : (int) bits;
    }

    static void taken(String what, RadixDesk desk, Consumer<RadixDesk> call) {
        Check.due(what + " throws", Check.thrownBy(() -> call.accept(desk)), "nothing");
    }

    /** The call must throw just this, and leave all of the desk as it is: as a second one that is made likewise. */
    static void refused(String what, Class<?> kind, Supplier<RadixDesk> maker, Consumer<RadixDesk> call) {
        RadixDesk desk = maker.get();
        Check.due(what + " throws", Check.thrownBy(() -> call.accept(desk)), kind);
        Check.due("the desk after " + what, Check.wholeState(desk), Check.wholeState(maker.get()));
    }

    static void refused(String what, Class<?> kind, Consumer<RadixDesk> call) {
        for (boolean isWide : BOTH) {
            refused(what + width(isWide), kind, () -> busy(isWide), call);
        }
    }

    /** The call must answer, and leave all of the desk as it is. */
    static void changesNothing(String what, Supplier<RadixDesk> maker, Consumer<RadixDesk> call) {
        RadixDesk desk = maker.get();
        taken(what, desk, call);
        Check.due("the desk after " + what, Check.wholeState(desk), Check.wholeState(maker.get()));
    }

    static void changesNothing(String what, Consumer<RadixDesk> call) {
        for (boolean isWide : BOTH) {
            changesNothing(what + width(isWide), () -> busy(isWide), call);
        }
    }

    /** The call takes the cells 0 to 7, and no other one. */
    static void cells(String what, CellCall call) {
        for (int cell = 0; cell < 8; cell++) {
            int taken = cell;
            for (boolean isWide : BOTH) {
                taken(what + " of cell " + cell + width(isWide), busy(isWide), desk -> call.on(desk, taken));
            }
        }
        for (int cell : NO_CELLS) {
            refused(what + " of cell " + cell, IndexOutOfBoundsException.class, desk -> call.on(desk, cell));
        }
    }
}
