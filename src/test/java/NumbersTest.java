import java.math.BigInteger;

/** Promises 36 to 39: combining, dividing, comparing and sorting, checked against BigInteger. */
public final class NumbersTest {
    private static final long[] NUMBERS = {
        0, 1, -1, 2, -2, 3, 10, -10, 0x7fff_ffffL, 0x8000_0000L, 0xffff_ffffL, 0x1_0000_0000L, 0x1_0000_0001L,
        -0x8000_0000L, -0x1_0000_0000L, Long.MAX_VALUE, Long.MIN_VALUE, Long.MIN_VALUE + 1,
        0x1234_5678_9abc_def0L, 0xfedc_ba98_7654_3210L,
    };

    public static void main(String[] args) {
        for (long first : NUMBERS) {
            for (long second : NUMBERS) {
                for (int width = 32; width <= 64; width += 32) {
                    combined(first, second, width);
                    divided(first, second, width);
                    compared(first, second, width);
                }
            }
        }
        plainQuotients();
        sameCells();
        sorting();
        wrongCalls();
        Check.end();
    }

    private static RadixDesk deskOf(long first, long second, int width) {
        RadixDesk desk = new RadixDesk();
        desk.setWide(width == 64);
        desk.set(1, first);
        desk.set(6, second);
        desk.set(3, 0x7777_7777_7777_7777L);
        return desk;
    }

    private static BigInteger value(long bits, int width, boolean isPlain) {
        BigInteger low = BigInteger.valueOf(bits).mod(BigInteger.ONE.shiftLeft(width));
        return !isPlain && low.testBit(width - 1) ? low.subtract(BigInteger.ONE.shiftLeft(width)) : low;
    }

    private static long put(BigInteger number, int width) {
        return width == 64 ? number.longValue() : number.intValue();
    }

    private static BigInteger combination(BigInteger a, BigInteger b, int how) {
        switch (how) {
            case RadixDesk.ADD: return a.add(b);
            case RadixDesk.SUBTRACT: return a.subtract(b);
            case RadixDesk.MULTIPLY: return a.multiply(b);
            case RadixDesk.AND: return a.and(b);
            case RadixDesk.OR: return a.or(b);
            default: return a.xor(b);
        }
    }

    private static void combined(long first, long second, int width) {
        for (int how = RadixDesk.ADD; how <= RadixDesk.XOR; how++) {
            BigInteger a = value(first, width, false);
            BigInteger b = value(second, width, false);
            long want = put(combination(a, b, how), width);
            RadixDesk desk = deskOf(first, second, width);
            String what = "combine " + first + " and " + second + " by " + how + " with " + width + " bits";
            Check.due(what, desk.combine(1, 6, how), want);
            Check.due("first after " + what, Check.bits(desk, 1), want);
            Check.due("second after " + what, Check.bits(desk, 6), second);
            RadixDesk one = deskOf(first, second, width);
            long doubled = put(combination(a, a, how), width);
            Check.due(what + " with itself", one.combine(1, 1, how), doubled);
            Check.due("bits after " + what + " with itself", Check.bits(one, 1), doubled);
        }
    }

    private static void divided(long first, long second, int width) {
        for (boolean isPlain : new boolean[] {false, true}) {
            BigInteger a = value(first, width, isPlain);
            BigInteger b = value(second, width, isPlain);
            boolean canBe = b.signum() != 0;
            RadixDesk desk = deskOf(first, second, width);
            String what = "divide " + first + " by " + second + (isPlain ? " plain" : "") + ", " + width + " bits";
            Check.due(what, desk.divide(1, 6, 3, isPlain), canBe);
            BigInteger[] parts = canBe ? a.divideAndRemainder(b) : null;
            Check.due("quotient of " + what, Check.bits(desk, 1), canBe ? put(parts[0], width) : first);
            Check.due("rest of " + what, Check.bits(desk, 3), canBe ? put(parts[1], width) : 0x7777_7777_7777_7777L);
            Check.due("second of " + what, Check.bits(desk, 6), second);
            RadixDesk over = deskOf(first, second, width);
            over.divide(1, 6, 1, isPlain);
            Check.due("rest over the first of " + what, Check.bits(over, 1), canBe ? put(parts[1], width) : first);
            RadixDesk under = deskOf(first, second, width);
            under.divide(1, 6, 6, isPlain);
            Check.due("quotient beside " + what, Check.bits(under, 1), canBe ? put(parts[0], width) : first);
            Check.due("rest over the second of " + what, Check.bits(under, 6), canBe ? put(parts[1], width) : second);
        }
    }

    /** Plain numbers up to 2^64 - 1 near the places where a quotient by halves, or by signs, would go wrong. */
    private static void plainQuotients() {
        long highest = Long.MIN_VALUE;
        for (long by : new long[] {1, 2, 3, 5, 7, 36, 1L << 31, 1L << 32, (1L << 32) + 1, 1L << 62, (1L << 62) + 1,
                Long.MAX_VALUE / 3, Long.MAX_VALUE - 1, Long.MAX_VALUE, highest, highest + 1, highest + 2, -2, -1}) {
            for (long times : new long[] {0, 1, 2, 3, 4, Long.divideUnsigned(highest, by), Long.divideUnsigned(-1, by)}) {
                for (long more = -2; more <= 2; more++) {
                    divided(times * by + more, by, 64);
                    compared(times * by + more, by, 64);
                }
            }
            for (long more = -2; more <= 2; more++) {
                divided(highest + more, by, 64);
                compared(highest + more, by, 64);
            }
        }
    }

    private static void compared(long first, long second, int width) {
        for (boolean isPlain : new boolean[] {false, true}) {
            int want = value(first, width, isPlain).compareTo(value(second, width, isPlain));
            RadixDesk desk = deskOf(first, second, width);
            String what = "compare " + first + " and " + second + (isPlain ? " plain" : "") + ", " + width + " bits";
            Check.due(what, desk.compare(1, 6, isPlain), want);
            Check.due("first after " + what, Check.bits(desk, 1), first);
            Check.due("second after " + what, Check.bits(desk, 6), second);
        }
    }

    private static void sameCells() {
        RadixDesk desk = deskOf(-7, 0, 64);
        Check.due("divide(1, 1, 3)", desk.divide(1, 1, 3, false), true);
        Check.due("a number by itself", desk.number(1), 1);
        Check.due("its rest", desk.number(3), 0);
        desk.set(1, 9);
        Check.due("divide(1, 1, 1)", desk.divide(1, 1, 1, true), true);
        Check.due("only the rest is there", desk.number(1), 0);
        Check.due("divide by itself if it is 0", desk.divide(1, 1, 3, true), false);
        Check.due("compare(1, 1)", desk.compare(1, 1, false), 0);
    }

    private static void sorted(boolean isWide, boolean isPlain, long[] before, long[] after, int moved) {
        RadixDesk desk = new RadixDesk();
        desk.setWide(isWide);
        for (int k = 0; k < 8; k++) {
            desk.set(k, before[k]);
        }
        String what = "sort" + (isPlain ? " plain" : "") + (isWide ? " wide" : "");
        Check.due(what, desk.sort(isPlain), moved);
        for (int k = 0; k < 8; k++) {
            Check.due("cell " + k + " after " + what, Check.bits(desk, k), after[k]);
        }
    }

    private static void sorting() {
        long x = 1L << 32;
        long[] mixed = {3, -1, 0, 2 * x + 3, x, -x - 1, x + 3, 7};
        sorted(true, false, mixed, new long[] {-x - 1, -1, 0, 3, 7, x, x + 3, 2 * x + 3}, 5);
        sorted(true, true, mixed, new long[] {0, 3, 7, x, x + 3, 2 * x + 3, -x - 1, -1}, 8);
        sorted(false, false, mixed, new long[] {-1, -x - 1, 0, x, 3, 2 * x + 3, x + 3, 7}, 5);
        sorted(false, true, mixed, new long[] {0, x, 3, 2 * x + 3, x + 3, 7, -1, -x - 1}, 7);
        long[] same = {5, 5 + x, 5 - x, 5, 5 + 2 * x, 5, 5, 5};
        sorted(false, false, same, same, 0);
        sorted(false, true, same, same, 0);
        sorted(true, false, same, new long[] {5 - x, 5, 5, 5, 5, 5, 5 + x, 5 + 2 * x}, 6);
        sorted(true, false, new long[] {8, 7, 6, 5, 4, 3, 2, 1}, new long[] {1, 2, 3, 4, 5, 6, 7, 8}, 8);
        sorted(true, false, new long[] {2, 1, 1, 1, 1, 1, 1, 1}, new long[] {1, 1, 1, 1, 1, 1, 1, 2}, 2);
    }

    private static void wrongCalls() {
        RadixDesk desk = deskOf(5, 0, 32);
        for (int cell : new int[] {-1, 8, Integer.MIN_VALUE, Integer.MAX_VALUE}) {
            Check.noCell("combine of first " + cell, desk, () -> desk.combine(cell, 1, 6));
            Check.noCell("combine of second " + cell, desk, () -> desk.combine(1, cell, 0));
        }
        for (int how : new int[] {-1, 6, Integer.MIN_VALUE, Integer.MAX_VALUE}) {
            String what = "combine by " + how;
            Check.fails(what, IllegalArgumentException.class, desk, () -> desk.combine(1, 6, how));
            Check.noCell(what + " and cell 8", desk, () -> desk.combine(1, 8, how));
        }
        for (int cell : new int[] {-1, 8, Integer.MIN_VALUE, Integer.MAX_VALUE}) {
            RadixDesk other = deskOf(5, 0, 64);
            Check.noCell("divide of first " + cell, other, () -> other.divide(cell, 6, 3, false));
            Check.noCell("divide of second " + cell, other, () -> other.divide(1, cell, 3, true));
            Check.noCell("divide of third " + cell, other, () -> other.divide(1, 3, cell, false));
            Check.noCell("divide by 0 of third " + cell, other, () -> other.divide(1, 6, cell, false));
            Check.noCell("compare of first " + cell, other, () -> other.compare(cell, 1, true));
            Check.noCell("compare of second " + cell, other, () -> other.compare(1, cell, false));
        }
    }
}
