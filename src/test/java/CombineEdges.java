import java.math.BigInteger;

/** Promises 36 to 39 and 43 to 45: two cells and more at the ends of what numbers can be. */
final class CombineEdges {
    private static final String NO_CELL = "Throws `IndexOutOfBoundsException` if there is no such cell";
    private static final String ITS_NUMBER = "Returns its number then.";
    private static final long LEAST = Integer.MIN_VALUE;
    private static final long MOST = Integer.MAX_VALUE;
    private static final long[] NUMBERS = {
        0, 1, -1, 2, MOST, MOST + 1, LEAST, LEAST - 1, 0xffff_ffffL, 0x1_0000_0000L, 0x1_0000_0001L, -0x1_0000_0000L,
        Long.MAX_VALUE, Long.MIN_VALUE, Long.MIN_VALUE + 1, 0x1234_5678_9abc_def0L,
    };

    private CombineEdges() {
    }

    static void run() {
        combine();
        combineRefused();
        divide();
        divideByNothing();
        divideSameCells();
        compare();
        sort();
        sortStays();
        errors();
        shares();
    }

    private static int width(boolean isWide) {
        return isWide ? 64 : 32;
    }

    private static BigInteger value(long bits, boolean isWide, boolean isPlain) {
        BigInteger plain = BigInteger.valueOf(bits).mod(BigInteger.TWO.pow(width(isWide)));
        boolean isBelow = !isPlain && plain.testBit(width(isWide) - 1);
        return isBelow ? plain.subtract(BigInteger.TWO.pow(width(isWide))) : plain;
    }

    private static long combination(long first, long second, int how, boolean isWide) {
        BigInteger a = value(first, isWide, false);
        BigInteger b = value(second, isWide, false);
        BigInteger[] all = {a.add(b), a.subtract(b), a.multiply(b), a.and(b), a.or(b), a.xor(b)};
        return Edge.put(all[how].longValue(), isWide);
    }

    private static void combine() {
        Check.sentence("Promise 36", "Puts the sum, the difference (first less other) or the product of the numbers of"
            + " two cells, or the number whose bits are 1 where both, one at least, or just one of theirs are, into the"
            + " first cell.");
        for (boolean isWide : Edge.BOTH) {
            for (long first : NUMBERS) {
                for (long second : NUMBERS) {
                    RadixDesk desk = Edge.deskOf(isWide, second, second, second, second, second, second, second, first);
                    for (int how = RadixDesk.ADD; how <= RadixDesk.XOR; how++) {
                        desk.set(6, first);
                        desk.combine(6, 0, how);
                        String what = first + " and " + second + " combined by " + how + Edge.width(isWide);
                        Check.due(what, Check.bits(desk, 6), combination(first, second, how, isWide));
                        Check.due("other cell of " + what, Check.bits(desk, 0), second);
                        desk.set(7, first);
                        desk.combine(7, 7, how);
                        Check.due(what + ", the same cell", Check.bits(desk, 7),
                            combination(first, first, how, isWide));
                    }
                }
            }
        }
        Check.sentence("Promise 36", ITS_NUMBER);
        Check.due("2^31 - 1 and 1 added", Edge.deskOf(false, MOST, 1).combine(0, 1, 0), LEAST);
        Check.due("2^31 - 1 and 1 added if wide", Edge.deskOf(true, MOST, 1).combine(0, 1, 0), MOST + 1);
        Check.due("2^63 - 1 and 1 added", Edge.deskOf(true, Long.MAX_VALUE, 1).combine(0, 1, 0), Long.MIN_VALUE);
        Check.due("upper bits are not added", Edge.deskOf(false, 1L << 32, 3L << 32).combine(0, 1, 0), 0);
        Check.due("first less other", Edge.deskOf(false, 3, 10).combine(0, 1, 1), -7);
    }

    private static void combineRefused() {
        Check.sentence("Promise 36", NO_CELL);
        Edge.cells("combine of the first", (desk, cell) -> desk.combine(cell, 0, 0));
        Edge.cells("combine of the other", (desk, cell) -> desk.combine(7, cell, 5));
        Edge.cells("combine of both", (desk, cell) -> desk.combine(cell, cell, 2));
        Check.sentence("Promise 36", "Throws `IllegalArgumentException` if how is out of range");
        for (int how = 0; how <= 5; how++) {
            int taken = how;
            Edge.taken("combine by " + how, Edge.busy(false), desk -> desk.combine(0, 1, taken));
        }
        for (int how : new int[] {-1, 6, 7, 256, Integer.MIN_VALUE, Integer.MAX_VALUE}) {
            Edge.refused("combine by " + how, IllegalArgumentException.class, desk -> desk.combine(0, 1, how));
            Edge.refused("combine with itself by " + how, IllegalArgumentException.class,
                desk -> desk.combine(7, 7, how));
        }
    }

    private static void divide() {
        Check.sentence("Promise 37", "Divides the number of a cell by that of another one: the quotient is put into the"
            + " first cell, and then the rest into a third one.");
        for (int way = 0; way < 4; way++) {
            boolean isWide = way > 1;
            boolean isPlain = way % 2 == 1;
            for (long first : NUMBERS) {
                for (long second : NUMBERS) {
                    BigInteger by = value(second, isWide, isPlain);
                    if (by.signum() != 0) {
                        BigInteger[] parts = value(first, isWide, isPlain).divideAndRemainder(by);
                        RadixDesk desk = Edge.deskOf(isWide, first, second, 77, 78);
                        desk.divide(0, 1, 2, isPlain);
                        String what = first + " by " + second + (isPlain ? " plain" : "") + Edge.width(isWide);
                        long quotient = Edge.put(parts[0].longValue(), isWide);
                        Check.due("quotient of " + what, Check.bits(desk, 0), quotient);
                        Check.due("divisor of " + what, Check.bits(desk, 1), second);
                        Check.due("rest of " + what, Check.bits(desk, 2), Edge.put(parts[1].longValue(), isWide));
                        Check.due("another cell than those of " + what, Check.bits(desk, 3), 78);
                    }
                }
            }
        }
    }

    private static void divideByNothing() {
        Check.sentence("Promise 37", "If the second number is 0, nothing changes.");
        for (boolean isPlain : Edge.BOTH) {
            for (int cell = 0; cell < 3; cell++) {
                int rest = cell;
                Edge.changesNothing("divide by 0 (wide)", () -> Edge.deskOf(true, 1L << 40, 0, 5),
                    desk -> desk.divide(0, 1, rest, isPlain));
                Edge.changesNothing("divide by 0 (narrow)", () -> Edge.deskOf(false, 3L << 32 | 7, 0, 5L << 32),
                    desk -> desk.divide(0, 1, rest, isPlain));
                Edge.changesNothing("divide by upper bits (narrow)", () -> Edge.deskOf(false, 3L << 32, 1L << 32, -5),
                    desk -> desk.divide(0, 1, rest, isPlain));
                Edge.changesNothing("divide 0 by itself", () -> Edge.deskOf(false, 3L << 32, 1L << 32, -5),
                    desk -> desk.divide(1, 1, rest, isPlain));
            }
        }
        Check.sentence("Promise 37", "Returns whether the second number is not 0.");
        for (boolean isPlain : Edge.BOTH) {
            Check.due("divide by 0", Edge.deskOf(false, 6, 0).divide(0, 1, 2, isPlain), false);
            Check.due("divide by 0 (wide)", Edge.deskOf(true, 6, 0).divide(0, 1, 2, isPlain), false);
            Check.due("divide 0 by 0", Edge.deskOf(false, 0, 0).divide(0, 0, 0, isPlain), false);
            Check.due("divide 0 by 1", Edge.deskOf(false, 0, 1).divide(0, 1, 0, isPlain), true);
            Check.due("divide by 1", Edge.deskOf(false, 6, 1).divide(0, 1, 2, isPlain), true);
            Check.due("divide by -1", Edge.deskOf(false, 6, -1).divide(0, 1, 2, isPlain), true);
            Check.due("divide by 2^31", Edge.deskOf(false, 6, 1L << 31).divide(0, 1, 2, isPlain), true);
            Check.due("divide by 2^32 (narrow)", Edge.deskOf(false, 6, 1L << 32).divide(0, 1, 2, isPlain), false);
            Check.due("divide by 2^32 (wide)", Edge.deskOf(true, 6, 1L << 32).divide(0, 1, 2, isPlain), true);
            Check.due("divide by 2^63 (wide)", Edge.deskOf(true, 6, 1L << 63).divide(0, 1, 2, isPlain), true);
        }
        Check.sentence("Promise 37", NO_CELL);
        for (boolean isPlain : Edge.BOTH) {
            Edge.cells("divide of the first", (desk, cell) -> desk.divide(cell, 1, 2, isPlain));
            Edge.cells("divide by", (desk, cell) -> desk.divide(0, cell, 2, isPlain));
            Edge.cells("divide of the rest", (desk, cell) -> desk.divide(0, 1, cell, isPlain));
        }
        for (int cell : Edge.NO_CELLS) {
            Edge.refused("divide by 0 of rest " + cell, IndexOutOfBoundsException.class, () -> Edge.deskOf(false, 3, 0),
                desk -> desk.divide(0, 1, cell, false));
            Edge.refused("divide by 0 of first " + cell, IndexOutOfBoundsException.class, () -> Edge.deskOf(true, 3, 0),
                desk -> desk.divide(cell, 1, 0, true));
        }
    }

    /** Which cells may be the same: the arguments' own words, below the sentences of promise 37. */
    private static void divideSameCells() {
        Check.sentence("Promise 37", "and then the rest into a third one.");
        RadixDesk onlyRest = Edge.deskOf(false, -17, 5);
        onlyRest.divide(0, 1, 0, false);
        Check.due("only the rest is there", onlyRest.number(0), -2);
        Check.due("the divisor stays", onlyRest.number(1), 5);
        RadixDesk overDivisor = Edge.deskOf(true, -17, 5);
        overDivisor.divide(0, 1, 1, false);
        Check.due("the quotient beside a rest over the divisor", overDivisor.number(0), -3);
        Check.due("a rest over the divisor", overDivisor.number(1), -2);
        RadixDesk byItself = Edge.deskOf(false, -17, 5);
        byItself.divide(0, 0, 1, true);
        Check.due("a number by itself", byItself.number(0), 1);
        Check.due("its rest", byItself.number(1), 0);
        RadixDesk allTheSame = Edge.deskOf(false, -17, 5);
        allTheSame.divide(0, 0, 0, false);
        Check.due("the rest of a number by itself", allTheSame.number(0), 0);
    }

    private static void compare() {
        Check.sentence("Promise 38", "Compares the numbers of two cells.");
        for (int way = 0; way < 4; way++) {
            boolean isWide = way > 1;
            boolean isPlain = way % 2 == 1;
            for (long first : NUMBERS) {
                for (long second : NUMBERS) {
                    int due = value(first, isWide, isPlain).compareTo(value(second, isWide, isPlain));
                    RadixDesk desk = Edge.deskOf(isWide, 0, 0, first, 0, 0, second);
                    String what = first + " and " + second + (isPlain ? " plain" : "") + Edge.width(isWide);
                    Check.due("compare() of " + what, desk.compare(2, 5, isPlain), due);
                }
            }
        }
        Check.sentence("Promise 38", "Returns -1 if the first one is less, 0 if they are equal, 1 if it is greater.");
        Check.due("the least and the greatest (narrow)", Edge.deskOf(false, LEAST, MOST).compare(0, 1, false), -1);
        Check.due("them plain (narrow)", Edge.deskOf(false, LEAST, MOST).compare(0, 1, true), 1);
        Check.due("the least and the greatest (wide)",
            Edge.deskOf(true, Long.MIN_VALUE, Long.MAX_VALUE).compare(0, 1, false), -1);
        Check.due("them plain (wide)", Edge.deskOf(true, Long.MIN_VALUE, Long.MAX_VALUE).compare(0, 1, true), 1);
        Check.due("-1 and 0", Edge.deskOf(false, -1, 0).compare(0, 1, false), -1);
        Check.due("-1 and 0 plain", Edge.deskOf(false, -1, 0).compare(0, 1, true), 1);
        Check.due("2^32 + 5 and 5 (narrow)", Edge.deskOf(false, (1L << 32) + 5, 5).compare(0, 1, false), 0);
        Check.due("2^32 + 5 and 5 plain (narrow)", Edge.deskOf(false, (1L << 32) + 5, 5).compare(0, 1, true), 0);
        Check.due("2^32 + 5 and 5 (wide)", Edge.deskOf(true, (1L << 32) + 5, 5).compare(0, 1, false), 1);
        Check.due("a cell and itself", Edge.deskOf(true, 5).compare(0, 0, false), 0);
        Edge.changesNothing("compare()", desk -> desk.compare(7, 0, false));
        Check.sentence("Promise 38", NO_CELL);
        for (boolean isPlain : Edge.BOTH) {
            Edge.cells("compare of the first", (desk, cell) -> desk.compare(cell, 0, isPlain));
            Edge.cells("compare of the other", (desk, cell) -> desk.compare(0, cell, isPlain));
            Edge.cells("compare of both", (desk, cell) -> desk.compare(cell, cell, isPlain));
        }
    }

    private static void sorted(boolean isWide, boolean isPlain, long[] before, long... after) {
        RadixDesk desk = Edge.deskOf(isWide, before);
        desk.sort(isPlain);
        for (int k = 0; k < 8; k++) {
            Check.due("cell " + k + " sorted" + (isPlain ? " plain" : "") + Edge.width(isWide), Check.bits(desk, k),
                after[k]);
        }
    }

    private static void sort() {
        long up = 1L << 32;
        Check.sentence("Promise 39", "Sorts the cells by their numbers, the least one first;");
        long[] ends = {0, Long.MAX_VALUE, -1, Long.MIN_VALUE, 1, LEAST, MOST, up};
        sorted(true, false, ends, Long.MIN_VALUE, LEAST, -1, 0, 1, MOST, up, Long.MAX_VALUE);
        sorted(true, true, ends, 0, 1, MOST, up, Long.MAX_VALUE, Long.MIN_VALUE, LEAST, -1);
        long[] lowEnds = {0, MOST, up - 1, LEAST, 1, up + 2, -3, 3};
        sorted(false, false, lowEnds, LEAST, -3, up - 1, 0, 1, up + 2, 3, MOST);
        sorted(false, true, lowEnds, 0, 1, up + 2, 3, MOST, LEAST, -3, up - 1);
        sorted(true, false, new long[] {8, 7, 6, 5, 4, 3, 2, 1}, 1, 2, 3, 4, 5, 6, 7, 8);
        sorted(true, false, new long[] {2, 3, 4, 5, 6, 7, 8, 1}, 1, 2, 3, 4, 5, 6, 7, 8);
        sorted(true, false, new long[] {8, 1, 2, 3, 4, 5, 6, 7}, 1, 2, 3, 4, 5, 6, 7, 8);
        Check.sentence("Promise 39", "equal ones stay in their order.");
        for (boolean isPlain : Edge.BOTH) {
            sorted(false, isPlain, new long[] {7 * up, 3 * up, 5 * up, up, 0, -up, 2 * up, -2 * up},
                7 * up, 3 * up, 5 * up, up, 0, -up, 2 * up, -2 * up);
            sorted(false, isPlain, new long[] {9 * up + 1, 8 * up, 7 * up + 1, 6 * up, 5 * up + 1, 4 * up, 1, 0},
                8 * up, 6 * up, 4 * up, 0, 9 * up + 1, 7 * up + 1, 5 * up + 1, 1);
            sorted(false, isPlain, new long[] {5, up + 4, 5 + up, 4, 3, 5 + 2 * up, up + 3, 4},
                3, up + 3, up + 4, 4, 4, 5, 5 + up, 5 + 2 * up);
        }
        Check.sentence("Promise 39", "Each one moves with its 64 bits.");
        for (boolean isPlain : Edge.BOTH) {
            sorted(false, isPlain, new long[] {up + 8, -up + 7, up * 9 + 6, 5, 4, 3, 2, Long.MIN_VALUE},
                Long.MIN_VALUE, 2, 3, 4, 5, up * 9 + 6, -up + 7, up + 8);
        }
        RadixDesk busy = Edge.busy(true);
        busy.sort(true);
        Check.due("page after sort()", Check.page(busy), "-56");
        Check.due("text after sort()", Check.text(busy), "set 0 77; 12z");
        Check.due("isWide() after sort()", busy.isWide(), true);
    }

    private static void sortStays() {
        Check.sentence("Promise 39", "Returns how many cells have other 64 bits than before.");
        Check.due("sort() of all the same", new RadixDesk().sort(false), 0);
        Check.due("sort() of sorted ones", Edge.deskOf(true, 1, 2, 3, 4, 5, 6, 7, 8).sort(false), 0);
        Check.due("sort() of two", Edge.deskOf(true, 2, 1, 3, 4, 5, 6, 7, 8).sort(false), 2);
        Check.due("sort() of the first and the last", Edge.deskOf(true, 8, 2, 3, 4, 5, 6, 7, 1).sort(false), 2);
        Check.due("sort() of all", Edge.deskOf(true, 8, 7, 6, 5, 4, 3, 2, 1).sort(false), 8);
        Check.due("sort() of a ring", Edge.deskOf(true, 2, 3, 4, 5, 6, 7, 8, 1).sort(false), 8);
        Check.due("cells that moved, but with the same bits", Edge.deskOf(true, 5, 5, 5, 1, 5, 5, 5, 5).sort(false), 2);
        Check.due("-1 behind 0 plain", Edge.deskOf(true, -1, 0, 0, 0, 0, 0, 0, 0).sort(true), 2);
        Check.due("-1 in front of 0", Edge.deskOf(true, -1, 0, 0, 0, 0, 0, 0, 0).sort(false), 0);
        long up = 1L << 32;
        Check.due("other upper bits alone", Edge.deskOf(false, up + 1, up, 1, 1, 1, 1, 1, 1).sort(false), 2);
        Check.due("upper bits count, numbers do not", Edge.deskOf(false, 1, up, up + 1, 0, 1, 1, 1, 1).sort(true), 4);
        Check.due("upper bits alone are not sorted", Edge.deskOf(false, 8 * up, up, 2 * up, 0).sort(true), 0);
        RadixDesk desk = Edge.deskOf(true, 8, 7, 6, 5, 4, 3, 2, 1);
        desk.sort(false);
        Check.due("a second sort()", desk.sort(false), 0);
    }

    private static void errors() {
        Check.sentence("Promise 43", "Checks the theorem with the numbers of all cells, on the desk as it is: for each"
            + " cell and each radix from 2 to 36, what is written is read back, with the sign and plain; bits and bytes"
            + " reversed twice; bits turned to the left and back by as many places as count() tells; and, for each cell"
            + " and the next one (the first one behind the last one), if the plain number of the next one is not 0,"
            + " quotient and rest of the plain numbers.");
        Edge.changesNothing("errors()", RadixDesk::errors);
        Edge.changesNothing("errors() of a full text", () -> Check.deskWith(Edge.signs(300)), RadixDesk::errors);
        Check.sentence("Promise 43", "Returns how many of all these checks fail; always 0.");
        for (boolean isWide : Edge.BOTH) {
            Check.due("errors() of a busy desk", Edge.busy(isWide).errors(), 0);
            for (long first : NUMBERS) {
                for (long step : NUMBERS) {
                    RadixDesk desk = Edge.deskOf(isWide);
                    desk.fill(first, step);
                    Check.due("errors() of " + first + " and " + step + Edge.width(isWide), desk.errors(), 0);
                }
            }
        }
    }

    private static void shares() {
        Check.sentence("Promise 44", "Returns the mean of count() over all cells.");
        Check.due("meanCount() of 0", (Object) new RadixDesk().meanCount(), (Object) 0.0);
        for (int cell = 0; cell < 8; cell++) {
            RadixDesk desk = new RadixDesk();
            desk.set(cell, 1L << 31 | 1L << 63);
            Check.due("meanCount() of cell " + cell + " (narrow)", (Object) desk.meanCount(), (Object) 0.125);
            desk.setWide(true);
            Check.due("meanCount() of cell " + cell + " (wide)", (Object) desk.meanCount(), (Object) 0.25);
        }
        Edge.changesNothing("meanCount()", RadixDesk::meanCount);
        Check.sentence("Promise 44", "Returns all of them added up and converted to double, divided by 8.0.");
        long all = -1;
        Check.due("meanCount() of all (narrow)",
            (Object) Edge.deskOf(false, all, all, all, all, all, all, all, all).meanCount(), (Object) 32.0);
        Check.due("meanCount() of all (wide)",
            (Object) Edge.deskOf(true, all, all, all, all, all, all, all, all).meanCount(), (Object) 64.0);
        Check.due("meanCount() of all but one (wide)",
            (Object) Edge.deskOf(true, all, all, all, all - 1, all, all, all, all).meanCount(), (Object) 63.875);
        Check.sentence("Promise 45", "Returns the share of the cells whose number is below 0.");
        Check.due("negativeShare() of 0", (Object) new RadixDesk().negativeShare(), (Object) 0.0f);
        for (int cell = 0; cell < 8; cell++) {
            RadixDesk desk = new RadixDesk();
            desk.set(cell, 1L << 31);
            Check.due("negativeShare() of 2^31 in cell " + cell, (Object) desk.negativeShare(), (Object) 0.125f);
            desk.setWide(true);
            Check.due("negativeShare() of 2^31 (wide)", (Object) desk.negativeShare(), (Object) 0.0f);
            desk.set(cell, 1L << 63);
            Check.due("negativeShare() of -2^63 (wide)", (Object) desk.negativeShare(), (Object) 0.125f);
            desk.setWide(false);
            Check.due("negativeShare() of -2^63 (narrow)", (Object) desk.negativeShare(), (Object) 0.0f);
        }
        Edge.changesNothing("negativeShare()", RadixDesk::negativeShare);
        Check.sentence("Promise 45", "Returns how many there are, converted to float, divided by 8.0f.");
        for (int below = 0; below <= 8; below++) {
            RadixDesk desk = new RadixDesk();
            for (int k = 0; k < below; k++) {
                desk.set(k, -1 - k);
            }
            Check.due("negativeShare() of " + below, (Object) desk.negativeShare(), (Object) (below / 8.0f));
        }
    }
}
