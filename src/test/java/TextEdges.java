/** Promises 7 to 11 and 16 to 18: the text and the page, empty, full, and one byte too long. */
final class TextEdges {
    private static final Class<?> TOO_LONG = IllegalStateException.class;
    private static final Class<?> NO_BYTE = IndexOutOfBoundsException.class;
    private static final String LENGTH_OF_TEXT = "Returns the length of the text.";
    private static final String[] EXAMPLES = {
        "set 0 1 ; set 1 3 ; loop 40 { multiply 0 1 ; write 0 7 ; back 2 7 ; "
            + "subtract 2 0 ; count 2 3 ; add 4 3 ; }",
        "wide ; set 0 -1 ; read 1 36 zik0zj ; loop 20 { divideplain 0 1 2 ; xor 3 2 ; reverse 3 ; "
            + "set 5 13 ; left 3 5 ; add 0 3 ; writeplain 3 16 ; backplain 6 16 ; }",
        "narrow ; set 0 12345 ; set 6 -1 ; loop 5 { loop 10 { bytes 0 ; left 0 6 ; writeplain 0 35 ; "
            + "backplain 1 35 ; compareplain 0 1 2 ; or 3 2 ; leading 0 4 ; add 5 4 ; } }",
    };

    private TextEdges() {
    }

    static void run() {
        typedBytes();
        typeTooLong();
        clearText();
        textLength();
        textAt();
        examples();
        examplesRefused();
        pageLength();
        pageAt();
        copyPage();
        copyPageTooLong();
    }

    private static void typed(long bytes, String due) {
        RadixDesk desk = Check.deskWith("xy");
        desk.type(bytes);
        Check.due("text after type(" + Long.toHexString(bytes) + ")", Check.text(desk), "xy" + due);
    }

    private static void typedBytes() {
        Check.sentence("Promise 7", "Puts bytes behind the text: those of a number, the highest one first,");
        typed(0x4142_4344_4546_4748L, "ABCDEFGH");
        typed(0x4241L, "BA");
        typed(0xff01_80fe_7f02_8140L, "\u00ff\u0001\u0080\u00fe\u007f\u0002\u0081@");
        typed(-1, "\u00ff\u00ff\u00ff\u00ff\u00ff\u00ff\u00ff\u00ff");
        typed(Long.MIN_VALUE, "\u0080");
        typed(Long.MAX_VALUE, "\u007f\u00ff\u00ff\u00ff\u00ff\u00ff\u00ff\u00ff");
        for (int one = 1; one < 256; one++) {
            RadixDesk desk = new RadixDesk();
            desk.type((long) one << 56 | one);
            Check.due("first byte " + one, desk.textAt(0), one);
            Check.due("last byte " + one, desk.textAt(1), one);
        }
        Check.sentence("Promise 7", "without those that are 0.");
        typed(0, "");
        for (int place = 0; place < 8; place++) {
            typed(0x41L << 8 * place, "A");
            typed(0x4141_4141_4141_4141L & ~(0xffL << 8 * place), "AAAAAAA");
        }
        typed(0x4100_4200_0000_4300L, "ABC");
        Check.sentence("Promise 7", LENGTH_OF_TEXT);
        RadixDesk desk = new RadixDesk();
        Check.due("type(0) of an empty text", desk.type(0), 0);
        Check.due("type() of a byte", desk.type(1), 1);
        Check.due("type() of eight bytes", desk.type(-1), 9);
        Check.due("type() of a byte in front of zeros", desk.type(1L << 56), 10);
        Check.due("type(0)", desk.type(0), 10);
    }

    private static void typeTooLong() {
        Check.sentence("Promise 7", "Throws `IllegalStateException` if it would be above 300");
        for (int bytes = 1; bytes <= 8; bytes++) {
            long number = -1L >>> 64 - 8 * bytes;
            int before = 300 - bytes;
            RadixDesk desk = Check.deskWith(Edge.signs(before));
            Check.due("type() of " + bytes + " bytes behind " + before, desk.type(number), 300);
            Check.due("the last byte", desk.textAt(299), 255);
            for (int more = 1; more <= bytes; more++) {
                int length = before + more;
                Edge.refused("type() of " + bytes + " bytes behind " + length, TOO_LONG,
                    () -> Check.deskWith(Edge.signs(length)), other -> other.type(number));
            }
        }
        Check.due("type(0) of a full text", Check.deskWith(Edge.signs(300)).type(0), 300);
        Check.due("a byte among zeros behind 299", Check.deskWith(Edge.signs(299)).type(65L << 32), 300);
        Edge.refused("two bytes among zeros behind 299", TOO_LONG, () -> Check.deskWith(Edge.signs(299)),
            desk -> desk.type(65L << 56 | 65));
        RadixDesk desk = Check.deskWith(Edge.signs(299));
        Check.due("a refused call first", Check.thrownBy(() -> desk.type(0x4142)), TOO_LONG);
        Check.due("then one byte", desk.type(0x43), 300);
        Check.due("the byte", desk.textAt(299), 'C');
    }

    private static void clearText() {
        Check.sentence("Promise 8", "Empties the text.");
        RadixDesk desk = Check.deskWith(Edge.signs(300));
        desk.clearText();
        Check.due("textLength() then", desk.textLength(), 0);
        Check.due("textAt(0) then throws", Check.thrownBy(() -> desk.textAt(0)), NO_BYTE);
        desk.type(0x7a);
        Check.due("text typed then", Check.text(desk), "z");
        RadixDesk busy = Edge.busy(false);
        busy.clearText();
        Check.type(busy, "set 0 77; 12z");
        Check.due("the desk but its text", Check.wholeState(busy), Check.wholeState(Edge.busy(false)));
        Check.sentence("Promise 8", "Returns its length before.");
        Check.due("clearText() at first", new RadixDesk().clearText(), 0);
        Check.due("clearText() of a byte", Check.deskWith("x").clearText(), 1);
        RadixDesk full = Check.deskWith(Edge.signs(300));
        Check.due("clearText() of a full text", full.clearText(), 300);
        Check.due("clearText() again", full.clearText(), 0);
    }

    private static void textLength() {
        Check.sentence("Promise 9", "Returns the length of the text. Returns its length.");
        for (int length : new int[] {0, 1, 8, 9, 299, 300}) {
            Check.due("textLength()", Check.deskWith(Edge.signs(length)).textLength(), length);
        }
        Edge.changesNothing("textLength()", RadixDesk::textLength);
    }

    private static void textAt() {
        Check.sentence("Promise 10", "Returns a byte of the text.");
        String signs = Edge.signs(300);
        RadixDesk desk = Check.deskWith(signs);
        for (int k = 0; k < 300; k++) {
            Check.due("textAt(" + k + ")", desk.textAt(k), signs.charAt(k));
        }
        Edge.changesNothing("textAt()", other -> other.textAt(12));
        Check.sentence("Promise 10", "Returns the byte, 1 to 255.");
        RadixDesk ends = new RadixDesk();
        ends.type(0x01ff_807fL);
        Check.due("the byte 1", ends.textAt(0), 1);
        Check.due("the byte 255", ends.textAt(1), 255);
        Check.due("the byte 128", ends.textAt(2), 128);
        Check.due("the byte 127", ends.textAt(3), 127);
        Check.sentence("Promise 10", "Throws `IndexOutOfBoundsException` if the text has no such byte");
        for (int length : new int[] {0, 1, 13, 299, 300}) {
            for (int index : new int[] {-1, length, length + 1, 301, Integer.MIN_VALUE, Integer.MAX_VALUE}) {
                Edge.refused("textAt(" + index + ") of " + length + " bytes", NO_BYTE,
                    () -> Check.deskWith(Edge.signs(length)), other -> other.textAt(index));
            }
        }
        RadixDesk shorter = Check.deskWith("abc");
        shorter.clearText();
        shorter.type('d');
        Check.due("textAt(1) of a shorter text throws", Check.thrownBy(() -> shorter.textAt(1)), NO_BYTE);
    }

    private static void examples() {
        Check.sentence("Promise 11", "Replaces the text by one of these programs, with one blank between two words:");
        for (int which = 0; which < 3; which++) {
            for (String before : new String[] {"", "before", Edge.signs(300)}) {
                RadixDesk desk = Check.deskWith(before);
                desk.example(which);
                Check.due("example(" + which + ") over " + before.length(), Check.text(desk), EXAMPLES[which]);
            }
        }
        example(0, "0: set 0 1 ; set 1 3 ; loop 40 { multiply 0 1 ; write 0 7 ; back 2 7 ; "
            + "subtract 2 0 ; count 2 3 ; add 4 3 ; }");
        example(1, "1: wide ; set 0 -1 ; read 1 36 zik0zj ; loop 20 { divideplain 0 1 2 ; xor 3 2 ; reverse 3 ; "
            + "set 5 13 ; left 3 5 ; add 0 3 ; writeplain 3 16 ; backplain 6 16 ; }");
        example(2, "2: narrow ; set 0 12345 ; set 6 -1 ; loop 5 { loop 10 { bytes 0 ; left 0 6 ; writeplain 0 35 ; "
            + "backplain 1 35 ; compareplain 0 1 2 ; or 3 2 ; leading 0 4 ; add 5 4 ; } }");
        RadixDesk busy = Edge.busy(true);
        busy.example(2);
        busy.clearText();
        Check.type(busy, "set 0 77; 12z");
        Check.due("the desk but its text", Check.wholeState(busy), Check.wholeState(Edge.busy(true)));
    }

    private static void example(int which, String line) {
        Check.sentence("Promise 11", line);
        RadixDesk desk = new RadixDesk();
        desk.example(which);
        Check.due("example(" + which + ")", which + ": " + Check.text(desk), line);
    }

    private static void examplesRefused() {
        Check.sentence("Promise 11", LENGTH_OF_TEXT);
        int[] lengths = {106, 157, 166};
        for (int which = 0; which < 3; which++) {
            Check.due("example(" + which + ")", new RadixDesk().example(which), lengths[which]);
            Check.due("example(" + which + ") over 300", Check.deskWith(Edge.signs(300)).example(which), lengths[which]);
        }
        Check.sentence("Promise 11", "Throws `IllegalArgumentException` if which is out of range");
        for (int which : new int[] {-1, 3, 4, 256, Integer.MIN_VALUE, Integer.MAX_VALUE}) {
            Edge.refused("example(" + which + ")", IllegalArgumentException.class, desk -> desk.example(which));
            Edge.refused("example(" + which + ") over 300", IllegalArgumentException.class,
                () -> Check.deskWith(Edge.signs(300)), desk -> desk.example(which));
        }
    }

    private static void pageLength() {
        Check.sentence("Promise 16", "Returns the length of the page. Returns its length.");
        Check.due("pageLength() at first", new RadixDesk().pageLength(), 0);
        RadixDesk desk = Edge.deskOf(true, Long.MIN_VALUE, 0);
        desk.write(0, 2, false);
        Check.due("pageLength() of the longest page", desk.pageLength(), 65);
        desk.write(0, 2, true);
        Check.due("pageLength() of 2^63", desk.pageLength(), 64);
        desk.write(1, 2, true);
        Check.due("pageLength() of the shortest page", desk.pageLength(), 1);
        Edge.changesNothing("pageLength()", RadixDesk::pageLength);
    }

    private static void pageAt() {
        Check.sentence("Promise 17", "Returns a byte of the page.");
        RadixDesk desk = Edge.deskOf(true, Long.MIN_VALUE + 1, -1);
        desk.write(0, 2, false);
        Check.due("pageAt(0)", desk.pageAt(0), '-');
        for (int k = 1; k < 64; k++) {
            Check.due("pageAt(" + k + ")", desk.pageAt(k), '1');
        }
        Check.sentence("Promise 17", "Returns the byte.");
        desk.write(0, 36, false);
        Check.due("page of 13 digits", Check.page(desk), "-1y2p0ij32e8e7");
        Edge.changesNothing("pageAt()", other -> other.pageAt(2));
        Check.sentence("Promise 17", "Throws `IndexOutOfBoundsException` if the page has no such byte");
        for (int index : new int[] {-1, 3, 4, 65, Integer.MIN_VALUE, Integer.MAX_VALUE}) {
            Edge.refused("pageAt(" + index + ") of three bytes", NO_BYTE, other -> other.pageAt(index));
        }
        for (int index : new int[] {-1, 0, 1}) {
            Edge.refused("pageAt(" + index + ") of none", NO_BYTE, RadixDesk::new, other -> other.pageAt(index));
        }
        RadixDesk longest = Edge.deskOf(true, Long.MIN_VALUE, 7);
        longest.write(0, 2, false);
        Check.due("pageAt(64)", longest.pageAt(64), '0');
        Check.due("pageAt(65) throws", Check.thrownBy(() -> longest.pageAt(65)), NO_BYTE);
        longest.write(1, 10, false);
        Check.due("pageAt(0) of a shorter page", longest.pageAt(0), '7');
        Check.due("pageAt(1) of a shorter page throws", Check.thrownBy(() -> longest.pageAt(1)), NO_BYTE);
    }

    private static void copyPage() {
        Check.sentence("Promise 18", "Puts the page behind the text; the page stays.");
        RadixDesk desk = Edge.busy(false);
        desk.copyPage();
        Check.due("text behind copyPage()", Check.text(desk), "set 0 77; 12z-56");
        Check.due("page behind copyPage()", Check.page(desk), "-56");
        desk.copyPage();
        Check.due("text behind another one", Check.text(desk), "set 0 77; 12z-56-56");
        RadixDesk empty = Check.deskWith("ab");
        empty.copyPage();
        Check.due("text behind an empty page", Check.text(empty), "ab");
        RadixDesk onNothing = Edge.deskOf(false, 35);
        onNothing.write(0, 36, false);
        onNothing.copyPage();
        onNothing.write(0, 2, false);
        Check.due("a copy is not the page", Check.text(onNothing), "z");
        Check.sentence("Promise 18", LENGTH_OF_TEXT);
        Check.due("copyPage() of three bytes behind 13", Edge.busy(true).copyPage(), 16);
        Check.due("copyPage() of nothing behind nothing", new RadixDesk().copyPage(), 0);
        Check.due("copyPage() of nothing behind 300", Check.deskWith(Edge.signs(300)).copyPage(), 300);
    }

    private static RadixDesk withPage(int textLength, int pageLength) {
        RadixDesk desk = Check.deskWith(Edge.signs(textLength));
        desk.setWide(true);
        desk.set(0, pageLength == 65 ? Long.MIN_VALUE : 1L << pageLength - 1);
        desk.write(0, 2, pageLength == 64);
        return desk;
    }

    private static void copyPageTooLong() {
        Check.sentence("Promise 18", "Throws `IllegalStateException` if it would be above 300");
        for (int length : new int[] {1, 2, 3, 64, 65}) {
            RadixDesk desk = withPage(300 - length, length);
            Check.due("the page to be copied", desk.pageLength(), length);
            Check.due("copyPage() up to 300", desk.copyPage(), 300);
            Check.due("the last byte", desk.textAt(299), length == 1 ? '1' : '0');
            Check.due("copyPage() behind 300 throws", Check.thrownBy(desk::copyPage), TOO_LONG);
            for (int above : new int[] {1, length}) {
                Edge.refused("copyPage() of " + length + " bytes up to " + (300 + above), TOO_LONG,
                    () -> withPage(300 - length + above, length), RadixDesk::copyPage);
            }
        }
    }
}
