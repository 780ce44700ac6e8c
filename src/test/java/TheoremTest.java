/** Promises 43 to 45: the theorem, and the two shares. */
public final class TheoremTest {
    private static final long[][] FILLS = {
        {0, 0}, {-1, 0}, {1, 1}, {-4, 1}, {Long.MIN_VALUE, 1}, {Long.MAX_VALUE, -1}, {Long.MIN_VALUE, Long.MIN_VALUE},
        {0x7fff_fffcL, 1}, {0xffff_fffcL, 1}, {1, 1L << 32}, {0x1234_5678_9abc_def0L, 0x0fed_cba9_8765_4321L},
        {3, Long.MAX_VALUE}, {-1, -0x1_0000_0001L},
    };

    public static void main(String[] args) {
        for (long[] fill : FILLS) {
            theorem(fill[0], fill[1], false);
            theorem(fill[0], fill[1], true);
            shares(fill[0], fill[1], false);
            shares(fill[0], fill[1], true);
        }
        knownShares();
        Check.end();
    }

    private static RadixDesk deskOf(long first, long step, boolean isWide) {
        RadixDesk desk = Check.deskWith("set 0 1;");
        desk.set(0, -77);
        desk.write(0, 7, false);
        desk.setWide(isWide);
        desk.fill(first, step);
        return desk;
    }

    private static void theorem(long first, long step, boolean isWide) {
        RadixDesk desk = deskOf(first, step, isWide);
        String before = Check.state(desk);
        String what = "errors() of " + first + " and " + step;
        Check.due(what, desk.errors(), 0);
        Check.due("the desk after " + what, Check.state(desk), before);
    }

    private static void shares(long first, long step, boolean isWide) {
        RadixDesk desk = deskOf(first, step, isWide);
        int ones = 0;
        int below = 0;
        for (int k = 0; k < 8; k++) {
            long bits = first + k * step;
            ones += isWide ? Long.bitCount(bits) : Integer.bitCount((int) bits);
            below += (isWide ? bits : (int) bits) < 0 ? 1 : 0;
        }
        String before = Check.state(desk);
        String what = first + " and " + step + (isWide ? " wide" : "");
        Check.due("meanCount() of " + what, (Object) desk.meanCount(), (Object) (ones / 8.0));
        Check.due("negativeShare() of " + what, (Object) desk.negativeShare(), (Object) (below / 8.0f));
        Check.due("the desk after the shares of " + what, Check.state(desk), before);
    }

    private static void knownShares() {
        RadixDesk desk = new RadixDesk();
        Check.due("meanCount() at first", (Object) desk.meanCount(), (Object) 0.0);
        Check.due("negativeShare() at first", (Object) desk.negativeShare(), (Object) 0.0f);
        desk.set(2, 0x8000_0001L);
        desk.set(7, 1L << 63);
        Check.due("meanCount() of two bits", (Object) desk.meanCount(), (Object) 0.25);
        Check.due("negativeShare() if narrow", (Object) desk.negativeShare(), (Object) 0.125f);
        desk.setWide(true);
        Check.due("meanCount() of three bits", (Object) desk.meanCount(), (Object) 0.375);
        Check.due("negativeShare() if wide", (Object) desk.negativeShare(), (Object) 0.125f);
        desk.fill(-1, 0);
        Check.due("meanCount() of all", (Object) desk.meanCount(), (Object) 64.0);
        Check.due("negativeShare() of all", (Object) desk.negativeShare(), (Object) 1.0f);
    }
}
