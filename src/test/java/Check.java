import java.util.Objects;

/** What all tests use: answers that are due, exceptions that are due, and the state of a desk. */
final class Check {
    private static int done = 0;
    private static int wrong = 0;

    private Check() {
    }

    static void due(String what, Object got, Object want) {
        done++;
        if (!Objects.equals(got, want)) {
            wrong++;
            System.out.println(what + " answered " + got + ", due is " + want);
        }
    }

    static void due(String what, long got, long want) {
        due(what, (Object) got, (Object) want);
    }

    static void due(String what, boolean got, boolean want) {
        due(what, (Object) got, (Object) want);
    }

    /** The call must throw just this exception, and leave the desk as it is. */
    static void fails(String what, Class<? extends RuntimeException> kind, RadixDesk desk, Runnable call) {
        String before = state(desk);
        Object thrown = "nothing";
        try {
            call.run();
        } catch (RuntimeException e) {
            thrown = e.getClass();
        }
        due(what + " throws", thrown, kind);
        due("the desk after " + what, state(desk), before);
    }

    static void noCell(String what, RadixDesk desk, Runnable call) {
        fails(what, IndexOutOfBoundsException.class, desk, call);
    }

    /** Asks for all 64 bits of a cell, and leaves the width as it is. */
    static long bits(RadixDesk desk, int cell) {
        boolean isWide = desk.setWide(true);
        long bits = desk.number(cell);
        desk.setWide(isWide);
        return bits;
    }

    /** Of a long text only both ends: an object is promised for 512 calls alone. */
    static String state(RadixDesk desk) {
        StringBuilder all = new StringBuilder();
        boolean isWide = desk.setWide(true);
        all.append(isWide ? "wide" : "narrow");
        for (int k = 0; k < 8; k++) {
            all.append(' ').append(Long.toHexString(desk.number(k)));
        }
        desk.setWide(isWide);
        int length = desk.textLength();
        all.append(" text ").append(length).append(' ');
        for (int k = 0; k < length; k++) {
            if (k < 20 || k >= length - 20) {
                all.append((char) desk.textAt(k));
            }
        }
        return all.append(" page ").append(page(desk)).toString();
    }

    static String page(RadixDesk desk) {
        StringBuilder all = new StringBuilder();
        int length = desk.pageLength();
        for (int k = 0; k < length; k++) {
            all.append((char) desk.pageAt(k));
        }
        return all.toString();
    }

    static String text(RadixDesk desk) {
        StringBuilder all = new StringBuilder();
        int length = desk.textLength();
        for (int k = 0; k < length; k++) {
            all.append((char) desk.textAt(k));
        }
        return all.toString();
    }

    /** Puts signs behind the text, eight bytes a call. */
    static void type(RadixDesk desk, String signs) {
        for (int from = 0; from < signs.length(); from += 8) {
            long bytes = 0;
            for (int k = from; k < Math.min(from + 8, signs.length()); k++) {
                bytes = bytes << 8 | signs.charAt(k);
            }
            desk.type(bytes);
        }
    }

    static RadixDesk deskWith(String text) {
        RadixDesk desk = new RadixDesk();
        type(desk, text);
        return desk;
    }

    static void end() {
        System.out.println(done + " checks, " + wrong + " wrong");
        if (wrong != 0) {
            System.exit(1);
        }
    }
}
