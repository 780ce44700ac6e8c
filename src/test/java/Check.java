import java.util.ArrayList;
import java.util.List;
import java.util.Objects;

/** What all tests use: answers that are due, exceptions that are due, and the state of a desk. */
final class Check {
    private static int done = 0;
    private static int wrong = 0;
    /** Where the words stand in the document that are tested now, and the words; none in tests of whole promises. */
    private static String section = "";
    private static String words = "";
    private static int doneForWords = 0;
    private static final List<String[]> sentences = new ArrayList<>();

    private Check() {
    }

    /** From here on the checks are those of these words of the document, which must have one at least. */
    static void sentence(String newSection, String newWords) {
        endSentence();
        section = newSection;
        words = newWords;
        doneForWords = 0;
        sentences.add(new String[] {section, words});
    }

    static void endSentence() {
        if (!section.isEmpty() && doneForWords == 0) {
            due("how many checks", "none", "one or more");
        }
        section = "";
        words = "";
    }

    /** The section and the words of all sentences so far. */
    static List<String[]> sentences() {
        return sentences;
    }

    static void due(String what, Object got, Object want) {
        done++;
        doneForWords++;
        if (!Objects.equals(got, want)) {
            wrong++;
            String where = section.isEmpty() ? "" : section + " (" + words + "): ";
            System.out.println(where + what + " answered " + got + ", due is " + want);
        }
    }

    static void due(String what, long got, long want) {
        due(what, (Object) got, (Object) want);
    }

    static void due(String what, boolean got, boolean want) {
        due(what, (Object) got, (Object) want);
    }

    /** The call must throw just this exception, and leave the desk as it is. */
    static void fails(String what, Class<? extends RuntimeException> kind, RadixDesk desk, Runnable call) {
        String before = state(desk);
        due(what + " throws", thrownBy(call), kind);
        due("the desk after " + what, state(desk), before);
    }

    static void noCell(String what, RadixDesk desk, Runnable call) {
        fails(what, IndexOutOfBoundsException.class, desk, call);
    }

    /** The class of what the call throws; "nothing" if it throws nothing. */
    static Object thrownBy(Runnable call) {
        try {
            call.run();
        } catch (RuntimeException e) {
            return e.getClass();
        }
        return "nothing";
    }

    /** Asks for all 64 bits of a cell, and leaves the width as it is. */
    static long bits(RadixDesk desk, int cell) {
        boolean isWide = desk.setWide(true);
        long bits = desk.number(cell);
        desk.setWide(isWide);
        return bits;
    }

    /** Of a long text only both ends: an object is promised for 512 calls alone. */
    static String state(RadixDesk desk) {
        return state(desk, 20);
    }

    /** The whole text too, for a desk that is asked for no more afterwards: 377 calls at most. */
    static String wholeState(RadixDesk desk) {
        return state(desk, 300);
    }

    private static String state(RadixDesk desk, int ends) {
        StringBuilder all = new StringBuilder();
        boolean isWide = desk.setWide(true);
        all.append(isWide ? "wide" : "narrow");
        for (int k = 0; k < 8; k++) {
            all.append(' ').append(Long.toHexString(desk.number(k)));
        }
        desk.setWide(isWide);
        int length = desk.textLength();
        all.append(" text ").append(length).append(' ');
        for (int k = 0; k < length; k++) {
            if (k < ends || k >= length - ends) {
                all.append((char) desk.textAt(k));
            }
        }
        return all.append(" page ").append(page(desk)).toString();
    }

    static String page(RadixDesk desk) {
        StringBuilder all = new StringBuilder();
        int length = desk.pageLength();
        for (int k = 0; k < length; k++) {
            all.append((char) desk.pageAt(k));
        }
        return all.toString();
    }

    static String text(RadixDesk desk) {
        StringBuilder all = new StringBuilder();
        int length = desk.textLength();
        for (int k = 0; k < length; k++) {
            all.append((char) desk.textAt(k));
        }
        return all.toString();
    }

    /** Puts signs behind the text, eight bytes a call. */
    static void type(RadixDesk desk, String signs) {
        for (int from = 0; from < signs.length(); from += 8) {
            long bytes = 0;
            for (int k = from; k < Math.min(from + 8, signs.length()); k++) {
                bytes = bytes << 8 | signs.charAt(k);
            }
            desk.type(bytes);
        }
    }

    static RadixDesk deskWith(String text) {
        RadixDesk desk = new RadixDesk();
        type(desk, text);
        return desk;
    }

    static void end() {
        endSentence();
        System.out.println(done + " checks, " + wrong + " wrong");
        if (wrong != 0) {
            System.exit(1);
        }
    }
}
