/** Promises 24 to 35: each bit alone, no bit, all bits, and those next to the upper half. */
final class BitEdges {
    private static final String NO_CELL = "Throws `IndexOutOfBoundsException` if there is no such cell";
    private static final String ITS_NUMBER = "Returns its number then.";

    private BitEdges() {
    }

    static void run() {
        counting();
        zeros();
        ones();
        sign();
        reverse();
        reverseBytes();
        rotate();
        rotateFar();
        onlyOne();
        spread();
        questionsChangeNothing();
    }

    private static int width(boolean isWide) {
        return isWide ? 64 : 32;
    }

    private static long mask(boolean isWide) {
        return isWide ? -1L : 0xffff_ffffL;
    }

    private static boolean isOne(long bits, int k) {
        return (bits >>> k & 1) == 1;
    }

    private static void counting() {
        Check.sentence("Promise 24", "Counts the bits of a cell that are 1 (of the W bits).");
        for (int k = 0; k < 64; k++) {
            RadixDesk desk = Edge.deskOf(false, 1L << k, ~(1L << k));
            Check.due("count() of bit " + k + " (narrow)", desk.count(0), k < 32 ? 1 : 0);
            Check.due("count() of all but bit " + k + " (narrow)", desk.count(1), k < 32 ? 31 : 32);
            desk.setWide(true);
            Check.due("count() of bit " + k + " (wide)", desk.count(0), 1);
            Check.due("count() of all but bit " + k + " (wide)", desk.count(1), 63);
        }
        Check.sentence("Promise 24", "Returns how many there are.");
        for (int count = 0; count <= 64; count++) {
            long bits = count == 64 ? -1L : (1L << count) - 1;
            RadixDesk desk = Edge.deskOf(true, bits);
            Check.due("count() of the lowest " + count + " (wide)", desk.count(0), count);
            desk.setWide(false);
            Check.due("count() of the lowest " + count + " (narrow)", desk.count(0), Math.min(count, 32));
        }
        Check.sentence("Promise 24", NO_CELL);
        Edge.cells("count", (desk, cell) -> desk.count(cell));
    }

    private static void zeros() {
        Check.sentence("Promise 25", "Counts the bits that are 0 from the highest one (W - 1) on, down to the first one"
            + " that is 1.");
        for (boolean isWide : Edge.BOTH) {
            for (int k = 0; k < width(isWide); k++) {
                long upper = ~mask(isWide);
                RadixDesk desk = Edge.deskOf(isWide, upper | 1L << k, upper | (2L << k) - 1, 1L << k | 1);
                int due = width(isWide) - 1 - k;
                Check.due("leading() of bit " + k + Edge.width(isWide), desk.leading(0), due);
                Check.due("leading() of bit " + k + " and all below" + Edge.width(isWide), desk.leading(1), due);
                Check.due("leading() of bits " + k + " and 0" + Edge.width(isWide), desk.leading(2), due);
            }
        }
        Check.sentence("Promise 25", "Returns how many there are; W if all are 0.");
        Check.due("leading() of 0 (narrow)", Edge.deskOf(false, 0).leading(0), 32);
        Check.due("leading() of upper bits (narrow)", Edge.deskOf(false, -1L << 32).leading(0), 32);
        Check.due("leading() of 0 (wide)", Edge.deskOf(true, 0).leading(0), 64);
        Check.due("leading() of all (narrow)", Edge.deskOf(false, -1).leading(0), 0);
        Check.due("leading() of all (wide)", Edge.deskOf(true, -1).leading(0), 0);
        Check.sentence("Promise 25", NO_CELL);
        Edge.cells("leading", (desk, cell) -> desk.leading(cell));
        Check.sentence("Promise 26", "Counts the bits that are 0 from the lowest one on, up to the first one that is 1.");
        for (boolean isWide : Edge.BOTH) {
            for (int k = 0; k < width(isWide); k++) {
                RadixDesk desk = Edge.deskOf(isWide, 1L << k, -1L << k, 1L << k | 1L << 63 | 1L << 31);
                Check.due("trailing() of bit " + k + Edge.width(isWide), desk.trailing(0), k);
                Check.due("trailing() of bit " + k + " and all above" + Edge.width(isWide), desk.trailing(1), k);
                Check.due("trailing() of bit " + k + " and others" + Edge.width(isWide), desk.trailing(2),
                    Math.min(k, 31));
            }
        }
        Check.sentence("Promise 26", "Returns how many there are; W if all are 0.");
        Check.due("trailing() of 0 (narrow)", Edge.deskOf(false, 0).trailing(0), 32);
        Check.due("trailing() of upper bits (narrow)", Edge.deskOf(false, -1L << 32).trailing(0), 32);
        Check.due("trailing() of bit 32 (wide)", Edge.deskOf(true, 1L << 32).trailing(0), 32);
        Check.due("trailing() of 0 (wide)", Edge.deskOf(true, 0).trailing(0), 64);
        Check.due("trailing() of all (wide)", Edge.deskOf(true, -1).trailing(0), 0);
        Check.sentence("Promise 26", NO_CELL);
        Edge.cells("trailing", (desk, cell) -> desk.trailing(cell));
    }

    private static void ones() {
        Check.sentence("Promise 27", "Counts the bits that are 1 from the highest one on, down to the first one that is"
            + " 0.");
        for (boolean isWide : Edge.BOTH) {
            for (int k = 0; k < width(isWide); k++) {
                long low = mask(isWide);
                RadixDesk desk = Edge.deskOf(isWide, low & ~(1L << k), low & (k == 63 ? 0 : -2L << k), ~(1L << k | 1));
                int due = width(isWide) - 1 - k;
                Check.due("leadingOnes() but bit " + k + Edge.width(isWide), desk.leadingOnes(0), due);
                Check.due("leadingOnes() above bit " + k + Edge.width(isWide), desk.leadingOnes(1), due);
                Check.due("leadingOnes() but bits " + k + " and 0" + Edge.width(isWide), desk.leadingOnes(2), due);
            }
        }
        Check.sentence("Promise 27", "Returns how many there are; W if all are 1.");
        Check.due("leadingOnes() of all (narrow)", Edge.deskOf(false, -1).leadingOnes(0), 32);
        Check.due("leadingOnes() of the lower half (narrow)", Edge.deskOf(false, 0xffff_ffffL).leadingOnes(0), 32);
        Check.due("leadingOnes() of the lower half (wide)", Edge.deskOf(true, 0xffff_ffffL).leadingOnes(0), 0);
        Check.due("leadingOnes() of the upper half (wide)", Edge.deskOf(true, -1L << 32).leadingOnes(0), 32);
        Check.due("leadingOnes() of all (wide)", Edge.deskOf(true, -1).leadingOnes(0), 64);
        Check.due("leadingOnes() of 0 (narrow)", Edge.deskOf(false, 0).leadingOnes(0), 0);
        Check.sentence("Promise 27", NO_CELL);
        Edge.cells("leadingOnes", (desk, cell) -> desk.leadingOnes(cell));
        Check.sentence("Promise 28", "Counts the bits that are 1 from the lowest one on, up to the first one that is 0.");
        for (boolean isWide : Edge.BOTH) {
            for (int k = 0; k < width(isWide); k++) {
                RadixDesk desk = Edge.deskOf(isWide, ~(1L << k), (1L << k) - 1, (1L << k) - 1 | 1L << 63 & -2L << k);
                Check.due("trailingOnes() but bit " + k + Edge.width(isWide), desk.trailingOnes(0), k);
                Check.due("trailingOnes() below bit " + k + Edge.width(isWide), desk.trailingOnes(1), k);
                Check.due("trailingOnes() below bit " + k + " and 63" + Edge.width(isWide), desk.trailingOnes(2), k);
            }
        }
        Check.sentence("Promise 28", "Returns how many there are; W if all are 1.");
        Check.due("trailingOnes() of all (narrow)", Edge.deskOf(false, -1).trailingOnes(0), 32);
        Check.due("trailingOnes() of the lower half (narrow)", Edge.deskOf(false, 0xffff_ffffL).trailingOnes(0), 32);
        Check.due("trailingOnes() of the lower half (wide)", Edge.deskOf(true, 0xffff_ffffL).trailingOnes(0), 32);
        Check.due("trailingOnes() of 33 (narrow)", Edge.deskOf(false, 0x1_ffff_ffffL).trailingOnes(0), 32);
        Check.due("trailingOnes() of all (wide)", Edge.deskOf(true, -1).trailingOnes(0), 64);
        Check.due("trailingOnes() of 0 (wide)", Edge.deskOf(true, 0).trailingOnes(0), 0);
        Check.sentence("Promise 28", NO_CELL);
        Edge.cells("trailingOnes", (desk, cell) -> desk.trailingOnes(cell));
    }

    private static void sign() {
        Check.sentence("Promise 29", "Returns the sign of the number of a cell.");
        for (int k = 0; k < 64; k++) {
            RadixDesk desk = Edge.deskOf(false, 1L << k, -1L << k);
            Check.due("sign() of bit " + k + " (narrow)", desk.sign(0), k < 31 ? 1 : k == 31 ? -1 : 0);
            Check.due("sign() from bit " + k + " on (narrow)", desk.sign(1), k < 32 ? -1 : 0);
            desk.setWide(true);
            Check.due("sign() of bit " + k + " (wide)", desk.sign(0), k < 63 ? 1 : -1);
            Check.due("sign() from bit " + k + " on (wide)", desk.sign(1), -1);
        }
        Check.sentence("Promise 29", "Returns -1, 0 or 1.");
        for (boolean isWide : Edge.BOTH) {
            long least = isWide ? Long.MIN_VALUE : Integer.MIN_VALUE;
            RadixDesk desk = Edge.deskOf(isWide, least, least + 1, -1, 0, 1, -1 - least);
            int[] due = {-1, -1, -1, 0, 1, 1};
            for (int k = 0; k < due.length; k++) {
                Check.due("sign() of " + desk.number(k), desk.sign(k), due[k]);
            }
        }
        Check.due("sign() of 2^40 - 1 (narrow)", Edge.deskOf(false, (1L << 40) - 1).sign(0), -1);
        Check.due("sign() of -2^40 (narrow)", Edge.deskOf(false, -1L << 40).sign(0), 0);
        Check.sentence("Promise 29", NO_CELL);
        Edge.cells("sign", (desk, cell) -> desk.sign(cell));
    }

    private static void reverse() {
        Check.sentence("Promise 30", "Reverses the W bits of a cell: bit k becomes what bit W - 1 - k was.");
        for (boolean isWide : Edge.BOTH) {
            for (int k = 0; k < 64; k++) {
                RadixDesk desk = Edge.deskOf(isWide, 1L << k, ~(1L << k));
                desk.reverse(0);
                desk.reverse(1);
                long one = k < width(isWide) ? 1L << (width(isWide) - 1 - k) : 0;
                Check.due("bit " + k + " reversed" + Edge.width(isWide), Check.bits(desk, 0), Edge.put(one, isWide));
                Check.due("all but bit " + k + " reversed" + Edge.width(isWide), Check.bits(desk, 1),
                    Edge.put(~one, isWide));
            }
        }
        Check.sentence("Promise 30", ITS_NUMBER);
        Check.due("reverse() of 1 (narrow)", Edge.deskOf(false, 1).reverse(0), Integer.MIN_VALUE);
        Check.due("reverse() of -2 (narrow)", Edge.deskOf(false, -2).reverse(0), Integer.MAX_VALUE);
        Check.due("reverse() of 1 (wide)", Edge.deskOf(true, 1).reverse(0), Long.MIN_VALUE);
        Check.due("reverse() of -2 (wide)", Edge.deskOf(true, -2).reverse(0), Long.MAX_VALUE);
        Check.due("reverse() of bit 31 (wide)", Edge.deskOf(true, 1L << 31).reverse(0), 1L << 32);
        Check.sentence("Promise 30", NO_CELL);
        Edge.cells("reverse", (desk, cell) -> desk.reverse(cell));
    }

    private static void reverseBytes() {
        Check.sentence("Promise 31", "Reverses the bytes of a cell, W / 8 groups of eight bits each;");
        Check.due("the bytes 1 to 4", Edge.deskOf(false, 0x0102_0304L).reverseBytes(0), 0x0403_0201L);
        Check.due("the bytes 1 to 8", Edge.deskOf(true, 0x0102_0304_0506_0708L).reverseBytes(0), 0x0807_0605_0403_0201L);
        Check.due("the lower half of them", Edge.deskOf(false, 0x0102_0304_0506_0708L).reverseBytes(0), 0x0807_0605L);
        Check.sentence("Promise 31", "within them the bits stay in their order.");
        for (boolean isWide : Edge.BOTH) {
            for (int k = 0; k < 64; k++) {
                RadixDesk desk = Edge.deskOf(isWide, 1L << k, ~(1L << k));
                desk.reverseBytes(0);
                desk.reverseBytes(1);
                long one = k < width(isWide) ? 1L << (width(isWide) - 8 - k / 8 * 8 + k % 8) : 0;
                Check.due("bytes of bit " + k + Edge.width(isWide), Check.bits(desk, 0), Edge.put(one, isWide));
                Check.due("bytes of all but bit " + k + Edge.width(isWide), Check.bits(desk, 1),
                    Edge.put(~one, isWide));
            }
        }
        Check.sentence("Promise 31", ITS_NUMBER);
        Check.due("reverseBytes() of 0x80 (narrow)", Edge.deskOf(false, 0x80).reverseBytes(0), Integer.MIN_VALUE);
        Check.due("reverseBytes() of 0x7f (narrow)", Edge.deskOf(false, 0x7f).reverseBytes(0), 0x7f00_0000L);
        Check.due("reverseBytes() of 0x80 (wide)", Edge.deskOf(true, 0x80).reverseBytes(0), Long.MIN_VALUE);
        Check.due("reverseBytes() of -1 (wide)", Edge.deskOf(true, -1).reverseBytes(0), -1);
        Check.sentence("Promise 31", NO_CELL);
        Edge.cells("reverseBytes", (desk, cell) -> desk.reverseBytes(cell));
    }

    /** Bit by bit: what stands at k is what stood at k less the distance, or at k and the distance. */
    private static long turned(long bits, int distance, boolean isLeft, boolean isWide) {
        long turned = 0;
        for (int k = 0; k < width(isWide); k++) {
            long from = isLeft ? (long) k - distance : (long) k + distance;
            turned |= isOne(bits, (int) Math.floorMod(from, (long) width(isWide))) ? 1L << k : 0;
        }
        return Edge.put(turned, isWide);
    }

    private static void rotated(long bits, int distance, boolean isWide) {
        for (boolean isLeft : Edge.BOTH) {
            RadixDesk desk = Edge.deskOf(isWide, bits);
            long due = turned(bits, distance, isLeft, isWide);
            String what = bits + (isLeft ? " left by " : " right by ") + distance + Edge.width(isWide);
            Check.due("rotate() of " + what, desk.rotate(0, distance, isLeft), due);
            Check.due("bits of " + what, Check.bits(desk, 0), due);
        }
    }

    private static void rotate() {
        Check.sentence("Promise 32", "Turns the W bits of a cell: bit k becomes what bit (k - distance) modulo W was (to"
            + " the left),");
        Check.due("1 left by 1", Edge.deskOf(false, 1).rotate(0, 1, true), 2);
        Check.due("1 left by -1 (narrow)", Edge.deskOf(false, 1).rotate(0, -1, true), Integer.MIN_VALUE);
        Check.due("1 left by -1 (wide)", Edge.deskOf(true, 1).rotate(0, -1, true), Long.MIN_VALUE);
        Check.due("bit 31 left by 1 (narrow)", Edge.deskOf(false, 1L << 31).rotate(0, 1, true), 1);
        Check.due("bit 31 left by 1 (wide)", Edge.deskOf(true, 1L << 31).rotate(0, 1, true), 1L << 32);
        Check.due("bit 63 left by 1 (wide)", Edge.deskOf(true, 1L << 63).rotate(0, 1, true), 1);
        Check.due("bit 63 left by 1 (narrow)", Edge.deskOf(false, 1L << 63).rotate(0, 1, true), 0);
        Check.sentence("Promise 32", "or what bit (k + distance) modulo W was (to the right).");
        Check.due("2 right by 1", Edge.deskOf(false, 2).rotate(0, 1, false), 1);
        Check.due("1 right by 1 (narrow)", Edge.deskOf(false, 1).rotate(0, 1, false), Integer.MIN_VALUE);
        Check.due("1 right by 1 (wide)", Edge.deskOf(true, 1).rotate(0, 1, false), Long.MIN_VALUE);
        Check.due("1 right by -1", Edge.deskOf(false, 1).rotate(0, -1, false), 2);
        Check.due("bit 32 right by 1 (narrow)", Edge.deskOf(false, 1L << 32).rotate(0, 1, false), 0);
        Check.due("bit 32 right by 1 (wide)", Edge.deskOf(true, 1L << 32).rotate(0, 1, false), 1L << 31);
    }

    private static void rotateFar() {
        Check.sentence("Promise 32", ITS_NUMBER);
        int[] far = {-1000, 1000, Integer.MIN_VALUE, Integer.MIN_VALUE + 1, Integer.MAX_VALUE, Integer.MAX_VALUE - 1};
        for (boolean isWide : Edge.BOTH) {
            for (long bits : new long[] {1, 0x8000_0000L, 0x1234_5678_9abc_def0L, -2}) {
                for (int distance = -130; distance <= 130; distance++) {
                    rotated(bits, distance, isWide);
                }
                for (int distance : far) {
                    rotated(bits, distance, isWide);
                }
            }
        }
        Check.sentence("Promise 32", NO_CELL);
        Edge.cells("rotate to the left", (desk, cell) -> desk.rotate(cell, 1, true));
        Edge.cells("rotate to the right", (desk, cell) -> desk.rotate(cell, 0, false));
    }

    private static void onlyOne() {
        Check.sentence("Promise 33", "Leaves only the highest one of the W bits that are 1, if there is one.");
        for (boolean isWide : Edge.BOTH) {
            for (int k = 0; k < width(isWide); k++) {
                long due = Edge.put(1L << k, isWide);
                RadixDesk desk = Edge.deskOf(isWide, ~mask(isWide) | (2L << k) - 1, 1L << k, 1L << k | 1);
                for (int cell = 0; cell < 3; cell++) {
                    desk.highest(cell);
                    Check.due("highest() is " + k + " of cell " + cell + Edge.width(isWide), Check.bits(desk, cell), due);
                }
            }
            RadixDesk none = Edge.deskOf(isWide, 0);
            none.highest(0);
            Check.due("highest() of no bit" + Edge.width(isWide), Check.bits(none, 0), 0);
        }
        Check.sentence("Promise 33", ITS_NUMBER);
        Check.due("highest() of 0", new RadixDesk().highest(0), 0);
        Check.due("highest() of upper bits (narrow)", Edge.deskOf(false, -1L << 32).highest(0), 0);
        Check.due("highest() of -1 (narrow)", Edge.deskOf(false, -1).highest(0), Integer.MIN_VALUE);
        Check.due("highest() of 2^31 - 1 (narrow)", Edge.deskOf(false, Integer.MAX_VALUE).highest(0), 1L << 30);
        Check.due("highest() of -1 (wide)", Edge.deskOf(true, -1).highest(0), Long.MIN_VALUE);
        Check.due("highest() of 2^32 - 1 (wide)", Edge.deskOf(true, 0xffff_ffffL).highest(0), 1L << 31);
        Check.sentence("Promise 33", NO_CELL);
        Edge.cells("highest", (desk, cell) -> desk.highest(cell));
        Check.sentence("Promise 34", "Leaves only the lowest one of the W bits that are 1, if there is one.");
        for (boolean isWide : Edge.BOTH) {
            for (int k = 0; k < width(isWide); k++) {
                long due = Edge.put(1L << k, isWide);
                RadixDesk desk = Edge.deskOf(isWide, -1L << k, 1L << k, 1L << k | 1L << 63);
                for (int cell = 0; cell < 3; cell++) {
                    desk.lowest(cell);
                    Check.due("lowest() is " + k + " of cell " + cell + Edge.width(isWide), Check.bits(desk, cell), due);
                }
            }
            RadixDesk none = Edge.deskOf(isWide, 0);
            none.lowest(0);
            Check.due("lowest() of no bit" + Edge.width(isWide), Check.bits(none, 0), 0);
        }
        Check.sentence("Promise 34", ITS_NUMBER);
        Check.due("lowest() of 0", new RadixDesk().lowest(0), 0);
        Check.due("lowest() of upper bits (narrow)", Edge.deskOf(false, -1L << 32).lowest(0), 0);
        Check.due("lowest() of upper bits (wide)", Edge.deskOf(true, -1L << 32).lowest(0), 1L << 32);
        Check.due("lowest() of bit 31 (narrow)", Edge.deskOf(false, 1L << 31).lowest(0), Integer.MIN_VALUE);
        Check.due("lowest() of bit 63 (wide)", Edge.deskOf(true, 1L << 63).lowest(0), Long.MIN_VALUE);
        Check.sentence("Promise 34", NO_CELL);
        Edge.cells("lowest", (desk, cell) -> desk.lowest(cell));
    }

    private static void spread() {
        Check.sentence("Promise 35", "Makes the upper 32 bits of a cell 0, also on a narrow desk.");
        for (boolean isWide : Edge.BOTH) {
            for (int k = 0; k < 64; k++) {
                RadixDesk desk = Edge.deskOf(isWide, 1L << k, -1L << k);
                desk.spread(0);
                desk.spread(1);
                Check.due("spread() of bit " + k + Edge.width(isWide), Check.bits(desk, 0), k < 32 ? 1L << k : 0);
                Check.due("spread() from bit " + k + " on" + Edge.width(isWide), Check.bits(desk, 1),
                    k < 32 ? (1L << 32) - (1L << k) : 0);
            }
        }
        Check.sentence("Promise 35", ITS_NUMBER);
        Check.due("spread() of -1 (narrow)", Edge.deskOf(false, -1).spread(0), -1);
        Check.due("spread() of -1 (wide)", Edge.deskOf(true, -1).spread(0), 0xffff_ffffL);
        Check.due("spread() of -2^31 (narrow)", Edge.deskOf(false, Integer.MIN_VALUE).spread(0), Integer.MIN_VALUE);
        Check.due("spread() of -2^31 (wide)", Edge.deskOf(true, Integer.MIN_VALUE).spread(0), 1L << 31);
        Check.due("spread() of 2^32 + 5 (wide)", Edge.deskOf(true, (1L << 32) + 5).spread(0), 5);
        Check.sentence("Promise 35", NO_CELL);
        Edge.cells("spread", (desk, cell) -> desk.spread(cell));
    }

    private static void questionsChangeNothing() {
        Edge.changesNothing("count()", desk -> desk.count(7));
        Edge.changesNothing("leading()", desk -> desk.leading(7));
        Edge.changesNothing("trailing()", desk -> desk.trailing(7));
        Edge.changesNothing("leadingOnes()", desk -> desk.leadingOnes(7));
        Edge.changesNothing("trailingOnes()", desk -> desk.trailingOnes(7));
        Edge.changesNothing("sign()", desk -> desk.sign(7));
    }
}
