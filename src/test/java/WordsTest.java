/** Promises 40 to 42: texts of thrown words, nearly right or not at all, each compared with what the model tells. */
public final class WordsTest {
    private static final int TEXTS = 30_000;
    private static final String[] VERBS = {
        "wide", "narrow", "set", "read", "readplain", "write", "writeplain", "back", "backplain", "reverse", "bytes",
        "highest", "lowest", "spread", "count", "leading", "trailing", "ones", "left", "right", "add", "subtract",
        "multiply", "and", "or", "xor", "divide", "divideplain", "compare", "compareplain", "loop", "loop", "loop",
    };
    private static final String[] NUMBERS = {
        "0", "1", "2", "7", "8", "36", "37", "50", "51", "-0", "-1", "+5", "007", "+", "-", "x", "z1", "1a",
        "9223372036854775807", "9223372036854775808", "-9223372036854775808", "-9223372036854775809",
    };
    private static final String[] GAPS = {" ", " ", " ", "\n", "", "", "  "};

    private final Dice dice;
    private final StringBuilder text = new StringBuilder();
    private int depth = 0;

    private WordsTest(long seed) {
        dice = new Dice(seed);
    }

    public static void main(String[] args) {
        int[] texts = new int[5];
        for (int seed = 0; seed < TEXTS; seed++) {
            texts[new WordsTest(seed).play()]++;
        }
        for (int kind = 0; kind < texts.length; kind++) {
            Check.due("there are texts of kind " + kind, texts[kind] > 0, true);
        }
        Check.end();
    }

    /** Any word behind any other one. */
    private void throwWord() {
        int kind = dice.below(100);
        String sign = kind < 80 ? ";" : kind < 90 ? "{" : "}";
        text.append(kind < 25 ? dice.one(VERBS) : kind < 60 ? dice.one(NUMBERS) : sign);
        text.append(dice.one(GAPS));
    }

    private static int arguments(String verb) {
        switch (verb) {
            case "wide": case "narrow": return 0;
            case "reverse": case "bytes": case "highest": case "lowest": case "spread": case "loop": return 1;
            case "read": case "readplain": return 3;
            case "divide": case "divideplain": case "compare": case "compareplain": return 3;
            default: return 2;
        }
    }

    private void throwStatement() {
        String verb = dice.one(VERBS);
        text.append(verb);
        for (int k = 0; k < arguments(verb); k++) {
            boolean isRadix = k == 1 && verb.matches("(read|write|back).*");
            String number = String.valueOf(isRadix ? 2 + dice.below(35) : dice.below(verb.equals("loop") ? 52 : 8));
            text.append(' ').append(dice.once(25) ? dice.one(NUMBERS) : number);
        }
        text.append(dice.once(60) ? "" : verb.equals("loop") ? "{" : ";");
        depth += verb.equals("loop") ? 1 : 0;
        if (depth > 0 && dice.once(3)) {
            text.append('}');
            depth--;
        }
    }

    private String thrownText() {
        boolean isWild = dice.once(4);
        for (int k = dice.below(40); k > 0 && text.length() < 290; k--) {
            if (isWild) {
                throwWord();
            } else {
                throwStatement();
            }
        }
        text.append("}".repeat(dice.once(4) ? 0 : depth));
        return text.substring(0, Math.min(text.length(), 300));
    }

    /** Returns the kind of the text's error. */
    private int play() {
        String signs = thrownText();
        RadixDesk desk = Check.deskWith(signs);
        Model model = new Model();
        model.text = signs;
        boolean isWide = dice.once(2);
        desk.setWide(isWide);
        model.setWide(isWide);
        long first = dice.once(4) ? dice.next() : dice.below(5);
        desk.fill(first, 1);
        model.fill(first, 1);
        if (dice.once(2)) {
            desk.write(1, 10, false);
            model.write(1, 10, false);
        }
        String what = " of \"" + signs + "\" from " + first + Edge.width(isWide);
        int kind = model.errorKind();
        Check.due("errorKind()" + what, desk.errorKind(), kind);
        Check.due("errorPlace()" + what, desk.errorPlace(), model.errorPlace());
        if (kind == 0) {
            Check.due("run()" + what, desk.run(), model.run());
        } else {
            Check.due("run()" + what + " throws", Check.thrownBy(desk::run), IllegalStateException.class);
        }
        same(what, desk, model);
        return kind;
    }

    private static void same(String what, RadixDesk desk, Model model) {
        Check.due("page after run()" + what, Check.page(desk), model.page);
        Check.due("width after run()" + what, desk.setWide(true), model.setWide(true));
        for (int k = 0; k < 8; k++) {
            Check.due("cell " + k + " after run()" + what, desk.number(k), model.number(k));
        }
    }
}
