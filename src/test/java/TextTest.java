/** Promises 7 to 11: the text, and its examples. */
public final class TextTest {
    private static final String[] EXAMPLES = {
        "set 0 1 ; set 1 3 ; loop 40 { multiply 0 1 ; write 0 7 ; back 2 7 ; "
            + "subtract 2 0 ; count 2 3 ; add 4 3 ; }",
        "wide ; set 0 -1 ; read 1 36 zik0zj ; loop 20 { divideplain 0 1 2 ; xor 3 2 ; reverse 3 ; "
            + "set 5 13 ; left 3 5 ; add 0 3 ; writeplain 3 16 ; backplain 6 16 ; }",
        "narrow ; set 0 12345 ; set 6 -1 ; loop 5 { loop 10 { bytes 0 ; left 0 6 ; writeplain 0 35 ; "
            + "backplain 1 35 ; compareplain 0 1 2 ; or 3 2 ; leading 0 4 ; add 5 4 ; } }",
    };

    public static void main(String[] args) {
        typing();
        fullText();
        bytes();
        examples();
        Check.end();
    }

    private static void typing() {
        RadixDesk desk = new RadixDesk();
        Check.due("type(0)", desk.type(0), 0);
        Check.due("type(65)", desk.type(65), 1);
        Check.due("type with gaps", desk.type(0x4200_4300_0000_4400L), 4);
        Check.due("type(-1)", desk.type(-1), 12);
        Check.due("the text", Check.text(desk), "ABCD\u00ff\u00ff\u00ff\u00ff\u00ff\u00ff\u00ff\u00ff");
        Check.due("type(0) behind it", desk.type(0), 12);
        Check.due("clearText()", desk.clearText(), 12);
        Check.due("clearText() again", desk.clearText(), 0);
        Check.due("textLength() then", desk.textLength(), 0);
        Check.due("type(0x80..01)", desk.type(0x8000_0000_0000_0001L), 2);
        Check.due("the text then", Check.text(desk), "\u0080\u0001");
    }

    private static void fullText() {
        RadixDesk desk = new RadixDesk();
        for (int k = 0; k < 37; k++) {
            desk.type(0x6161_6161_6161_6161L);
        }
        Check.due("textLength() of 37 times 8", desk.textLength(), 296);
        Check.fails("type of 5 bytes", IllegalStateException.class, desk, () -> desk.type(0x62_6262_6262L));
        Check.due("type of 4 bytes", desk.type(0x6262_6200_6300_0000L), 300);
        Check.fails("type of a byte", IllegalStateException.class, desk, () -> desk.type(1));
        Check.due("type of no byte", desk.type(0), 300);
        Check.due("textAt(295)", desk.textAt(295), 'a');
        Check.due("textAt(299)", desk.textAt(299), 'c');
        Check.noCell("textAt(300)", desk, () -> desk.textAt(300));
        Check.due("clearText() of the full text", desk.clearText(), 300);
    }

    private static void bytes() {
        RadixDesk desk = Check.deskWith("ab");
        Check.due("textAt(0)", desk.textAt(0), 'a');
        Check.due("textAt(1)", desk.textAt(1), 'b');
        for (int index : new int[] {-1, 2, Integer.MIN_VALUE, Integer.MAX_VALUE}) {
            Check.noCell("textAt(" + index + ")", desk, () -> desk.textAt(index));
        }
        desk.clearText();
        Check.noCell("textAt(0) of an empty text", desk, () -> desk.textAt(0));
    }

    private static void examples() {
        for (int which = 0; which < EXAMPLES.length; which++) {
            RadixDesk desk = Check.deskWith("before");
            Check.due("example(" + which + ")", desk.example(which), EXAMPLES[which].length());
            Check.due("its text", Check.text(desk), EXAMPLES[which]);
        }
        RadixDesk desk = Check.deskWith("before");
        desk.write(0, 10, false);
        for (int which : new int[] {-1, 3, Integer.MIN_VALUE, Integer.MAX_VALUE}) {
            Check.fails("example(" + which + ")", IllegalArgumentException.class, desk, () -> desk.example(which));
        }
    }
}
