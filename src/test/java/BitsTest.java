/** Promises 24 to 35: the bits of a cell, checked against bits that are moved one by one. */
public final class BitsTest {
    private static final long[] NUMBERS = {
        0, 1, -1, 2, 6, -2, 255, 0x8000_0000L, 0x7fff_ffffL, 0xffff_ffffL, 0x1_0000_0000L, 0xffff_ffff_0000_0000L,
        0x8000_0000_0000_0000L, 0x7fff_ffff_ffff_ffffL, 0xffff_fffe_0000_0000L, 0x1234_5678_9abc_def0L,
        0xfedc_ba98_7654_3210L, 0x0000_0001_8000_0000L, 0xaaaa_aaaa_5555_5555L, 0xf0f0_f0f0_0f0f_0f0fL,
    };

    public static void main(String[] args) {
        for (long bits : NUMBERS) {
            for (int width = 32; width <= 64; width += 32) {
                counts(bits, width);
                changes(bits, width);
                turns(bits, width);
                spread(bits, width);
            }
        }
        wrongCells();
        Check.end();
    }

    private static RadixDesk deskOf(long bits, int width) {
        RadixDesk desk = new RadixDesk();
        desk.setWide(width == 64);
        desk.fill(0x5555_5555_5555_5555L, 0);
        desk.set(2, bits);
        return desk;
    }

    private static boolean isOne(long bits, int k) {
        return (bits >>> k & 1) == 1;
    }

    /** What 64 bits are put into a cell, if these are its lowest ones. */
    private static long put(long bits, int width) {
        return width == 64 ? bits : (int) bits;
    }

    private static void counts(long bits, int width) {
        int count = 0;
        for (int k = 0; k < width; k++) {
            count += isOne(bits, k) ? 1 : 0;
        }
        int leading = 0;
        while (leading < width && !isOne(bits, width - 1 - leading)) {
            leading++;
        }
        int trailing = 0;
        while (trailing < width && !isOne(bits, trailing)) {
            trailing++;
        }
        int leadingOnes = 0;
        while (leadingOnes < width && isOne(bits, width - 1 - leadingOnes)) {
            leadingOnes++;
        }
        int trailingOnes = 0;
        while (trailingOnes < width && isOne(bits, trailingOnes)) {
            trailingOnes++;
        }
        RadixDesk desk = deskOf(bits, width);
        String what = " of " + Long.toHexString(bits) + " with " + width + " bits";
        Check.due("count" + what, desk.count(2), count);
        Check.due("leading" + what, desk.leading(2), leading);
        Check.due("trailing" + what, desk.trailing(2), trailing);
        Check.due("leadingOnes" + what, desk.leadingOnes(2), leadingOnes);
        Check.due("trailingOnes" + what, desk.trailingOnes(2), trailingOnes);
        int sign = count == 0 ? 0 : isOne(bits, width - 1) ? -1 : 1;
        Check.due("sign" + what, desk.sign(2), sign);
        Check.due("bits after the counts" + what, Check.bits(desk, 2), bits);
    }

    private static void changes(long bits, int width) {
        long turned = 0;
        long bytes = 0;
        long highest = 0;
        long lowest = 0;
        for (int k = 0; k < width; k++) {
            turned |= (bits >>> k & 1) << (width - 1 - k);
            bytes |= (bits >>> k & 1) << (width - 8 - (k - k % 8) + k % 8);
            highest = isOne(bits, k) ? 1L << k : highest;
            lowest = isOne(bits, width - 1 - k) ? 1L << (width - 1 - k) : lowest;
        }
        RadixDesk desk = deskOf(bits, width);
        changed(desk, "reverse", bits, width, desk.reverse(2), turned);
        desk.set(2, bits);
        changed(desk, "reverseBytes", bits, width, desk.reverseBytes(2), bytes);
        desk.set(2, bits);
        changed(desk, "highest", bits, width, desk.highest(2), highest);
        desk.set(2, bits);
        changed(desk, "lowest", bits, width, desk.lowest(2), lowest);
    }

    private static void changed(RadixDesk desk, String call, long bits, int width, long got, long low) {
        String what = call + " of " + Long.toHexString(bits) + " with " + width + " bits";
        Check.due(what, got, put(low, width));
        Check.due("bits after " + what, Check.bits(desk, 2), put(low, width));
        Check.due("cell 1 after " + what, Check.bits(desk, 1), 0x5555_5555_5555_5555L);
        Check.due("cell 3 after " + what, Check.bits(desk, 3), 0x5555_5555_5555_5555L);
    }

    private static void turns(long bits, int width) {
        int[] distances = {
            0, 1, -1, 8, 31, 32, 33, 63, 64, 65, -31, -32, -33, -63, -64, -65, 1000,
            Integer.MIN_VALUE, Integer.MAX_VALUE, Integer.MIN_VALUE + 5,
        };
        RadixDesk desk = deskOf(bits, width);
        for (int distance : distances) {
            long left = 0;
            long right = 0;
            for (int k = 0; k < width; k++) {
                left |= (bits >>> Math.floorMod((long) k - distance, width) & 1) << k;
                right |= (bits >>> Math.floorMod((long) k + distance, width) & 1) << k;
            }
            desk.set(2, bits);
            changed(desk, "rotate left by " + distance, bits, width, desk.rotate(2, distance, true), left);
            desk.set(2, bits);
            changed(desk, "rotate right by " + distance, bits, width, desk.rotate(2, distance, false), right);
        }
    }

    private static void spread(long bits, int width) {
        RadixDesk desk = deskOf(bits, width);
        String what = "spread of " + Long.toHexString(bits) + " with " + width + " bits";
        Check.due(what, desk.spread(2), put(bits & 0xffff_ffffL, width));
        Check.due("bits after " + what, Check.bits(desk, 2), bits & 0xffff_ffffL);
    }

    private static void wrongCells() {
        for (int cell : new int[] {-1, 8, Integer.MIN_VALUE, Integer.MAX_VALUE}) {
            String behind = "(" + cell + ")";
            RadixDesk desk = deskOf(12, 32);
            Check.noCell("count" + behind, desk, () -> desk.count(cell));
            Check.noCell("leading" + behind, desk, () -> desk.leading(cell));
            Check.noCell("trailing" + behind, desk, () -> desk.trailing(cell));
            Check.noCell("leadingOnes" + behind, desk, () -> desk.leadingOnes(cell));
            Check.noCell("trailingOnes" + behind, desk, () -> desk.trailingOnes(cell));
            Check.noCell("sign" + behind, desk, () -> desk.sign(cell));
        }
        for (int cell : new int[] {-1, 8, Integer.MIN_VALUE, Integer.MAX_VALUE}) {
            String behind = "(" + cell + ")";
            RadixDesk other = deskOf(12, 64);
            Check.noCell("reverse" + behind, other, () -> other.reverse(cell));
            Check.noCell("reverseBytes" + behind, other, () -> other.reverseBytes(cell));
            Check.noCell("rotate" + behind, other, () -> other.rotate(cell, 1, true));
            Check.noCell("highest" + behind, other, () -> other.highest(cell));
            Check.noCell("lowest" + behind, other, () -> other.lowest(cell));
            Check.noCell("spread" + behind, other, () -> other.spread(cell));
        }
    }
}
