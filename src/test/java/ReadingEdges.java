import java.math.BigInteger;

/** Terms 3 and promises 12 and 19: pieces that can just be read, and those that just cannot. */
final class ReadingEdges {
    private static final Class<?> WRONG_PIECE = IndexOutOfBoundsException.class;
    private static final String OR_NOTHING = "If it can be read, the number is put into a cell; otherwise nothing"
        + " changes.";
    /** What a cell has that shall show whether something was put into it. */
    private static final long LEFT_ALONE = 0x1234_5678_9abc_def0L;

    private ReadingEdges() {
    }

    static void run() {
        radixes();
        signs();
        digits();
        numbers();
        plainNumbers();
        read();
        readTold();
        readRefused();
        readPage();
        readPageTold();
    }

    /** Reads the whole text, and as a piece among other bytes; what cannot be read must leave everything alone. */
    private static void read(boolean isWide, String piece, int radix, boolean isPlain, Long due) {
        String what = "read of \"" + piece + "\" in radix " + radix + (isPlain ? " plain" : "") + Edge.width(isWide);
        for (String around : new String[] {"", "7"}) {
            RadixDesk desk = Check.deskWith(around + piece + around);
            desk.setWide(isWide);
            desk.set(3, LEFT_ALONE);
            int from = around.length();
            Check.due(what, desk.read(3, from, from + piece.length(), radix, isPlain), due != null);
            long bits = due == null ? LEFT_ALONE : Edge.put(due, isWide);
            Check.due("cell after " + what, Check.bits(desk, 3), bits);
            Check.due("text length after " + what, desk.textLength(), piece.length() + 2 * from);
            Check.due("page length after " + what, desk.pageLength(), 0);
        }
    }

    private static void can(String piece, int radix, boolean isPlain, long due) {
        read(false, piece, radix, isPlain, due);
        read(true, piece, radix, isPlain, due);
    }

    private static void cannot(String piece, int radix, boolean isPlain) {
        read(false, piece, radix, isPlain, null);
        read(true, piece, radix, isPlain, null);
    }

    private static void radixes() {
        Check.sentence("Terms 3", "A piece of a text can be read in a radix if the radix is 2 to 36,");
        for (boolean isPlain : Edge.BOTH) {
            for (int radix = 2; radix <= 36; radix++) {
                can("10", radix, isPlain, radix);
                can("1", radix, isPlain, 1);
            }
            for (int radix : Edge.NO_RADIXES) {
                cannot("10", radix, isPlain);
                cannot("0", radix, isPlain);
                cannot("", radix, isPlain);
                RadixDesk desk = Edge.deskOf(false, 10, LEFT_ALONE);
                desk.write(0, 10, isPlain);
                Check.due("readPage in radix " + radix, desk.readPage(1, radix, isPlain), false);
                Check.due("its cell", Check.bits(desk, 1), LEFT_ALONE);
            }
        }
    }

    private static void signs() {
        Check.sentence("Terms 3", "and the piece is one plus (43) or one minus or neither,");
        for (boolean isPlain : Edge.BOTH) {
            can("5", 10, isPlain, 5);
            can("+5", 10, isPlain, 5);
            can("+0", 10, isPlain, 0);
            for (String piece : new String[] {"++5", "+-5", "-+5", "--5", "5+", "5-", "5+5", "5-5", " 5", "5 ", " +5",
                    "+ 5", "- 5", "*5", ",5", ".5", "/5"}) {
                cannot(piece, 10, isPlain);
            }
        }
        can("-5", 10, false, -5);
        can("-0", 10, false, 0);
        can("-00", 10, false, 0);
    }

    private static void digits() {
        Check.sentence("Terms 3", "then one digit or more,");
        for (boolean isPlain : Edge.BOTH) {
            cannot("", 10, isPlain);
            cannot("+", 10, isPlain);
            cannot("-", 10, isPlain);
            can("7", 10, isPlain, 7);
            can("+7", 10, isPlain, 7);
            can("0".repeat(150) + "77", 8, isPlain, 63);
            can("0".repeat(254), 36, isPlain, 0);
        }
        Check.sentence("Terms 3", "each less than the radix,");
        String all = "0123456789abcdefghijklmnopqrstuvwxyz";
        for (int radix = 2; radix <= 36; radix++) {
            String last = all.substring(radix - 1, radix);
            can(last, radix, false, radix - 1);
            can(last + "0", radix, true, (radix - 1) * radix);
            if (radix < 36) {
                String next = all.substring(radix, radix + 1);
                cannot(next, radix, false);
                cannot("0" + next, radix, true);
                cannot(next + "0", radix, false);
                cannot(next.toUpperCase().replaceAll("\\d", "z"), radix, true);
            }
        }
        Check.sentence("Terms 3", "where capital letters A to Z stand for the same as small ones;");
        for (char small = 'a'; small <= 'z'; small++) {
            String capital = String.valueOf((char) (small - 'a' + 'A'));
            int digit = small - 'a' + 10;
            can(capital, 36, false, digit);
            can("-" + capital, digit + 1, false, -digit);
            can(capital + small, 36, true, digit * 36 + digit);
            cannot(capital, digit, false);
        }
        for (int one = 1; one < 256; one++) {
            char sign = (char) one;
            boolean isDigit = sign >= '0' && sign <= '9' || sign >= 'a' && sign <= 'z' || sign >= 'A' && sign <= 'Z';
            if (!isDigit) {
                cannot(String.valueOf(sign), 36, false);
                cannot("1" + sign, 36, false);
                cannot(sign + "-1", 36, false);
            }
        }
    }

    private static void around(boolean isWide, boolean isPlain, BigInteger least, BigInteger most) {
        for (int radix = 2; radix <= 36; radix++) {
            read(isWide, most.toString(radix), radix, isPlain, most.longValue());
            read(isWide, "+00" + most.toString(radix).toUpperCase(), radix, isPlain, most.longValue());
            for (BigInteger more : new BigInteger[] {BigInteger.ONE, BigInteger.valueOf(radix), most, most.shiftLeft(1),
                    BigInteger.TWO.pow(64), BigInteger.TWO.pow(64).add(BigInteger.ONE), BigInteger.TWO.pow(200)}) {
                read(isWide, most.add(more).toString(radix), radix, isPlain, null);
            }
            if (least.signum() < 0) {
                read(isWide, least.toString(radix), radix, false, least.longValue());
                for (BigInteger less : new BigInteger[] {BigInteger.ONE, BigInteger.valueOf(radix), most,
                        BigInteger.TWO.pow(64), BigInteger.TWO.pow(200)}) {
                    read(isWide, least.subtract(less).toString(radix), radix, false, null);
                }
            }
        }
    }

    private static void numbers() {
        Check.sentence("Terms 3", "and if the number that this tells (below 0 with a minus) is from -2^(W-1) to 2^(W-1)"
            + " - 1.");
        for (boolean isWide : Edge.BOTH) {
            BigInteger half = BigInteger.TWO.pow(isWide ? 63 : 31);
            around(isWide, false, half.negate(), half.subtract(BigInteger.ONE));
        }
        read(false, "2147483647", 10, false, 2147483647L);
        read(false, "2147483648", 10, false, null);
        read(false, "-2147483648", 10, false, -2147483648L);
        read(false, "-2147483649", 10, false, null);
        read(true, "9223372036854775807", 10, false, Long.MAX_VALUE);
        read(true, "9223372036854775808", 10, false, null);
        read(true, "-9223372036854775808", 10, false, Long.MIN_VALUE);
        read(true, "-9223372036854775809", 10, false, null);
        read(true, "18446744073709551617", 10, false, null);
        read(true, "99999999999999999999", 10, false, null);
        read(false, "99999999999999999999", 10, false, null);
    }

    private static void plainNumbers() {
        Check.sentence("Terms 3", "It can be read plain likewise, but there must be no minus,");
        cannot("-5", 10, true);
        cannot("-1", 2, true);
        cannot("-0", 10, true);
        cannot("-", 10, true);
        can("0", 10, true, 0);
        can("+5", 10, true, 5);
        can("zZ", 36, true, 35 * 37);
        Check.sentence("Terms 3", "and the number must be from 0 to 2^W - 1.");
        for (boolean isWide : Edge.BOTH) {
            BigInteger most = BigInteger.TWO.pow(isWide ? 64 : 32).subtract(BigInteger.ONE);
            around(isWide, true, BigInteger.ZERO, most);
        }
        read(false, "4294967295", 10, true, -1L);
        read(false, "4294967296", 10, true, null);
        read(true, "18446744073709551615", 10, true, -1L);
        read(true, "18446744073709551616", 10, true, null);
    }

    private static void read() {
        Check.sentence("Promise 12", "Reads a piece of the text.");
        String text = "123456";
        for (int from = 0; from <= 6; from++) {
            for (int to = from; to <= 6; to++) {
                RadixDesk desk = Check.deskWith(text);
                desk.set(7, -1);
                Check.due("read from " + from + " to " + to, desk.read(7, from, to, 10, false), to > from);
                long due = to > from ? Long.parseLong(text.substring(from, to)) : -1;
                Check.due("number from " + from + " to " + to, desk.number(7), due);
            }
        }
        RadixDesk full = Check.deskWith("+" + "0".repeat(298) + "7");
        Check.due("read of a full text", full.read(0, 0, 300, 10, true), true);
        Check.due("its number", full.number(0), 7);
        Check.sentence("Promise 12", OR_NOTHING);
        for (boolean isPlain : Edge.BOTH) {
            for (int radix : new int[] {0, 1, 2, 37}) {
                Edge.changesNothing("read in radix " + radix, desk -> desk.read(7, 10, 12, radix, isPlain));
            }
            Edge.changesNothing("read of no piece", desk -> desk.read(7, 13, 13, 10, isPlain));
            Edge.changesNothing("read of no piece at the front", desk -> desk.read(0, 0, 0, 10, isPlain));
            Edge.changesNothing("read of a blank", desk -> desk.read(0, 9, 12, 10, isPlain));
            Edge.changesNothing("read of a too large digit", desk -> desk.read(0, 10, 13, 35, isPlain));
            RadixDesk desk = Edge.busy(false);
            desk.read(7, 10, 13, 36, isPlain);
            Check.due("a cell that is read into", Check.bits(desk, 7), (36 + 2) * 36 + 35);
            desk.set(7, -0x1_0000_0000L - 41);
            Check.due("the desk but that cell", Check.wholeState(desk), Check.wholeState(Edge.busy(false)));
        }
    }

    private static void readTold() {
        Check.sentence("Promise 12", "Returns whether it can be read.");
        Check.due("read of \"12\"", Edge.busy(false).read(0, 10, 12, 10, false), true);
        Check.due("read of \"12z\"", Edge.busy(false).read(0, 10, 13, 10, false), false);
        Check.due("read of \"12z\" in radix 36", Edge.busy(false).read(0, 10, 13, 36, true), true);
        Check.due("read of \"set\" in radix 36", Edge.busy(true).read(0, 0, 3, 36, true), true);
        Check.due("read of \"set\" in radix 29", Edge.busy(true).read(0, 0, 3, 29, true), false);
        Check.due("read of nothing", new RadixDesk().read(0, 0, 0, 10, false), false);
    }

    private static void readRefused() {
        Check.sentence("Promise 12", "Throws `IndexOutOfBoundsException` if there is no such cell, from is less than 0,"
            + " to is less than from, or to is above the length of the text");
        Edge.cells("read", (desk, cell) -> desk.read(cell, 10, 12, 10, false));
        Edge.cells("read of nothing", (desk, cell) -> desk.read(cell, 13, 13, 99, true));
        int least = Integer.MIN_VALUE;
        int most = Integer.MAX_VALUE;
        int[][] wrong = {
            {-1, 12}, {-1, 0}, {-1, -1}, {least, 12}, {least, least}, {least, most}, {12, 11}, {1, 0}, {0, -1},
            {0, least}, {13, 12}, {most, least}, {most, 0}, {10, 14}, {0, 14}, {13, 14}, {14, 14}, {0, most},
            {most, most}, {14, 13}, {-2, -1},
        };
        for (int[] piece : wrong) {
            String what = "read from " + piece[0] + " to " + piece[1];
            Edge.refused(what, WRONG_PIECE, desk -> desk.read(0, piece[0], piece[1], 10, true));
            Edge.refused(what + " in no radix", WRONG_PIECE, desk -> desk.read(7, piece[0], piece[1], 1, false));
        }
        for (int[] piece : new int[][] {{0, 0}, {0, 13}, {13, 13}, {12, 13}, {0, 1}}) {
            Edge.taken("read from " + piece[0] + " to " + piece[1], Edge.busy(false),
                desk -> desk.read(0, piece[0], piece[1], 10, true));
        }
        for (int[] piece : new int[][] {{0, 1}, {1, 1}, {-1, 0}}) {
            Edge.refused("read of an empty text from " + piece[0], WRONG_PIECE, RadixDesk::new,
                desk -> desk.read(0, piece[0], piece[1], 10, true));
        }
        Edge.refused("read to 301 of a full text", WRONG_PIECE, () -> Check.deskWith("1".repeat(300)),
            desk -> desk.read(0, 299, 301, 10, true));
        Edge.taken("read to 300 of a full text", Check.deskWith("1".repeat(300)),
            desk -> desk.read(0, 299, 300, 10, true));
    }

    private static RadixDesk withPage(boolean isWide, long written, boolean isPlain) {
        RadixDesk desk = Edge.deskOf(true, written, LEFT_ALONE);
        desk.write(0, 10, isPlain);
        desk.setWide(isWide);
        return desk;
    }

    private static void page(boolean isWide, long written, boolean isWrittenPlain, boolean isPlain, Long due) {
        RadixDesk desk = withPage(isWide, written, isWrittenPlain);
        String what = "readPage of " + Check.page(desk) + (isPlain ? " plain" : "") + Edge.width(isWide);
        Check.due(what, desk.readPage(1, 10, isPlain), due != null);
        Check.due("cell after " + what, Check.bits(desk, 1), due == null ? LEFT_ALONE : Edge.put(due, isWide));
        Check.due("page after " + what, Check.page(desk), Check.page(withPage(isWide, written, isWrittenPlain)));
    }

    private static void readPage() {
        Check.sentence("Promise 19", "Reads the whole page.");
        long least = Integer.MIN_VALUE;
        long most = Integer.MAX_VALUE;
        page(false, most, false, false, most);
        page(false, most + 1, false, false, null);
        page(false, least, false, false, least);
        page(false, least - 1, false, false, null);
        page(false, most + 1, false, true, least);
        page(false, 0xffff_ffffL, false, true, -1L);
        page(false, 0x1_0000_0000L, false, true, null);
        page(false, -1, false, true, null);
        page(false, 0, false, true, 0L);
        page(true, Long.MAX_VALUE, false, false, Long.MAX_VALUE);
        page(true, Long.MIN_VALUE, false, false, Long.MIN_VALUE);
        page(true, Long.MIN_VALUE, true, false, null);
        page(true, Long.MIN_VALUE, true, true, Long.MIN_VALUE);
        page(true, -1, true, true, -1L);
        page(true, -1, true, false, null);
        page(true, -1, false, true, null);
        Check.sentence("Promise 19", OR_NOTHING);
        for (boolean isPlain : Edge.BOTH) {
            for (int radix : new int[] {0, 1, 2, 5, 6, 37}) {
                Edge.changesNothing("readPage in radix " + radix, desk -> desk.readPage(7, radix, isPlain));
            }
            Edge.changesNothing("readPage of no page", () -> Edge.deskOf(false, LEFT_ALONE),
                desk -> desk.readPage(0, 10, isPlain));
        }
        Edge.changesNothing("readPage plain of a minus", desk -> desk.readPage(0, 7, true));
        RadixDesk desk = Edge.busy(true);
        desk.readPage(2, 7, false);
        Check.due("a cell that is read into", Check.bits(desk, 2), -41);
        desk.set(2, Check.bits(Edge.busy(true), 2));
        Check.due("the desk but that cell", Check.wholeState(desk), Check.wholeState(Edge.busy(true)));
    }

    private static void readPageTold() {
        Check.sentence("Promise 19", "Returns whether it can be read.");
        Check.due("readPage of no page", new RadixDesk().readPage(0, 10, false), false);
        Check.due("readPage of \"-56\" in radix 7", Edge.busy(false).readPage(0, 7, false), true);
        Check.due("readPage of \"-56\" in radix 6", Edge.busy(false).readPage(0, 6, false), false);
        Check.due("readPage of \"-56\" in radix 36", Edge.busy(true).readPage(0, 36, false), true);
        Check.due("readPage of \"-56\" in radix 37", Edge.busy(true).readPage(0, 37, false), false);
        Check.due("readPage of \"-56\" plain", Edge.busy(true).readPage(0, 7, true), false);
        Check.sentence("Promise 19", "Throws `IndexOutOfBoundsException` if there is no such cell");
        Edge.cells("readPage", (desk, cell) -> desk.readPage(cell, 7, false));
        Edge.cells("readPage that cannot be", (desk, cell) -> desk.readPage(cell, 99, true));
    }
}
