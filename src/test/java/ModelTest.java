import java.util.function.Supplier;

/** All promises: long runs of mixed calls, each compared with what the model answers. */
public final class ModelTest {
    private static final int RUNS = 3000;
    private static final int TURNS = 120;
    /** An object is promised for 512 calls: a turn makes 45 at most, the look at its end 140. */
    private static final int CALLS_BEFORE_A_TURN = 512 - 140 - 45;
    private static final String[] VERBS = {
        "wide", "narrow", "set", "read", "readplain", "write", "writeplain", "back", "backplain", "reverse", "bytes",
        "highest", "lowest", "spread", "count", "leading", "trailing", "ones", "left", "right", "add", "subtract",
        "multiply", "and", "or", "xor", "divide", "divideplain", "compare", "compareplain", "loop", "loop", "loop",
    };
    private static final String[] ODD_WORDS = {
        ";", "{", "}", "8", "-1", "51", "37", "1", "+3", "-0", "x", "loop", "set", "\t", "9223372036854775808",
        "4294967296", "", ";;", "}{", "007", "zz", "-", "+",
    };

    private final Dice dice;
    private final RadixDesk desk = new RadixDesk();
    private final Model model = new Model();
    private final StringBuilder told = new StringBuilder();
    private int calls = 0;

    private ModelTest(long seed) {
        dice = new Dice(seed);
    }

    public static void main(String[] args) {
        for (int k = 0; k < RUNS; k++) {
            new ModelTest(k).play();
        }
        Check.end();
    }

    private void play() {
        for (int k = 0; k < TURNS && calls <= CALLS_BEFORE_A_TURN; k++) {
            call(dice.below(48));
        }
        same("the page", () -> Check.page(desk), () -> model.page);
        same("textLength()", () -> desk.textLength(), () -> model.text.length());
        for (int k = 0; k < 60; k++) {
            int index = model.text.length() - 1 - k;
            same("textAt(" + index + ")", () -> desk.textAt(index), () -> Model.byteAt(model.text, index));
        }
        same("setWide(true)", () -> desk.setWide(true), () -> model.setWide(true));
        for (int k = 0; k < 8; k++) {
            int cell = k;
            same("number(" + cell + ")", () -> desk.number(cell), () -> model.number(cell));
        }
    }

    private static Object answer(Supplier<Object> call) {
        try {
            return call.get();
        } catch (RuntimeException e) {
            return e.getClass().getSimpleName();
        }
    }

    private void same(String what, Supplier<Object> call, Supplier<Object> want) {
        told.append(what).append("; ");
        calls++;
        Object due = answer(want);
        Object got = answer(call);
        Check.due(got.equals(due) ? what : "after " + told, got, due);
    }

    /** A number that is likely to be near an edge. */
    private long number() {
        long edge = dice.below(3) == 0 ? 0 : 1L << dice.below(64);
        switch (dice.below(4)) {
            case 0: return edge + dice.below(5) - 2;
            case 1: return -edge + dice.below(5) - 2;
            case 2: return dice.below(200) - 100;
            default: return dice.next() >> dice.below(64);
        }
    }

    private int cell() {
        return dice.below(40) == 0 ? (int) number() : dice.below(8);
    }

    private int radix() {
        return dice.below(8) == 0 ? (int) number() : 2 + dice.below(35);
    }

    private int index(int length) {
        return dice.below(8) == 0 ? (int) number() : dice.below(length + 2) - 1;
    }

    private String piece(int radix, boolean isPlain) {
        long number = number();
        int base = radix < 2 || radix > 36 ? 10 : radix;
        String signs = isPlain ? Long.toUnsignedString(number, base) : Long.toString(number, base);
        switch (dice.below(8)) {
            case 0: return "+" + signs;
            case 1: return signs.toUpperCase();
            case 2: return signs + (char) (33 + dice.below(200));
            case 3: return "-" + signs;
            case 4: return signs.replace("-", "-000");
            default: return signs;
        }
    }

    private String argument(char kind, int radix) {
        if (dice.below(60) == 0) {
            return ODD_WORDS[dice.below(ODD_WORDS.length)];
        }
        switch (kind) {
            case 'C': return String.valueOf(dice.below(8));
            case 'R': return String.valueOf(radix);
            case 'T': return String.valueOf(dice.below(2) == 0 ? dice.below(52) : dice.below(5));
            case 'N': return String.valueOf(number());
            default: return piece(radix, dice.below(2) == 0);
        }
    }

    private String statement(int depth) {
        String verb = VERBS[dice.below(VERBS.length)];
        int radix = 2 + dice.below(35);
        String arguments = verb.equals("wide") || verb.equals("narrow") ? "" : verb.equals("set") ? "CN"
            : verb.startsWith("read") ? "CRP" : verb.startsWith("write") || verb.startsWith("back") ? "CR"
            : "reverse bytes highest lowest spread".contains(verb) ? "C"
            : verb.startsWith("divide") || verb.startsWith("compare") ? "CCC" : verb.equals("loop") ? "T" : "CC";
        StringBuilder all = new StringBuilder(dice.below(200) == 0 ? verb + "s" : verb);
        for (char kind : arguments.toCharArray()) {
            all.append(dice.below(9) == 0 ? "\n " : " ").append(argument(kind, radix));
        }
        all.append(dice.below(3) == 0 ? " " : "");
        if (!verb.equals("loop")) {
            return all.append(dice.below(150) == 0 ? "" : dice.below(2) == 0 ? ";" : "; ").toString();
        }
        all.append(dice.below(100) == 0 ? "" : "{");
        for (int k = dice.below(5); k > 0 && depth < 5; k--) {
            all.append(statement(depth + 1));
        }
        return all.append(dice.below(100) == 0 ? "" : "}").toString();
    }

    private String program() {
        StringBuilder all = new StringBuilder();
        for (int k = dice.below(12); k >= 0; k--) {
            all.append(statement(0));
        }
        boolean isCut = dice.below(20) == 0 || all.length() > 300;
        return isCut ? all.substring(0, Math.min(all.length(), dice.below(301))) : all.toString();
    }

    private void retype(String signs) {
        same("clearText()", () -> desk.clearText(), () -> model.clearText());
        Check.type(desk, signs);
        calls += (signs.length() + 7) / 8;
        model.text = signs;
        told.append("typed ").append(signs).append("; ");
    }

    private void call(int which) {
        if (which < 16) {
            callOfText(which);
        } else if (which < 32) {
            callOfBits(which);
        } else {
            callOfMany(which);
        }
    }

    private void callOfText(int which) {
        int cell = cell();
        int radix = radix();
        boolean isPlain = dice.below(2) == 0;
        String behind = "(" + cell + ", " + radix + ", " + isPlain + ")";
        switch (which) {
            case 0: {
                long bytes = number();
                same("type(" + bytes + ")", () -> desk.type(bytes), () -> model.type(bytes));
                break;
            }
            case 1: {
                int index = index(model.text.length());
                same("textAt(" + index + ")", () -> desk.textAt(index), () -> Model.byteAt(model.text, index));
                break;
            }
            case 2: {
                int index = index(model.page.length());
                same("pageAt(" + index + ")", () -> desk.pageAt(index), () -> Model.byteAt(model.page, index));
                break;
            }
            case 3: {
                int from = index(model.text.length());
                int to = dice.below(9) == 0 ? index(model.text.length()) : Math.max(from, model.text.length());
                same("read of " + from + " to " + to + behind, () -> desk.read(cell, from, to, radix, isPlain),
                    () -> model.read(cell, from, to, radix, isPlain));
                break;
            }
            case 4:
            case 5: {
                String piece = piece(radix, isPlain);
                retype(piece);
                same("read" + behind, () -> desk.read(cell, 0, piece.length(), radix, isPlain),
                    () -> model.read(cell, 0, piece.length(), radix, isPlain));
                break;
            }
            case 6:
            case 7:
                same("write" + behind, () -> desk.write(cell, radix, isPlain), () -> model.write(cell, radix, isPlain));
                break;
            case 8:
            case 9:
                same("readPage" + behind, () -> desk.readPage(cell, radix, isPlain),
                    () -> model.readPage(cell, radix, isPlain));
                break;
            case 10: {
                int kind = dice.below(5) - 1;
                same("writeBits of " + kind + behind, () -> desk.writeBits(cell, kind), () -> model.writeBits(cell, kind));
                break;
            }
            case 11:
                same("writeTen" + behind, () -> desk.writeTen(cell, isPlain), () -> model.write(cell, 10, isPlain));
                break;
            case 12:
                same("copyPage()", () -> desk.copyPage(), () -> model.copyPage());
                break;
            case 13: {
                int index = index(dice.below(40));
                same("digitAt of " + index + behind, () -> desk.digitAt(cell, radix, index, isPlain),
                    () -> model.digitAt(cell, radix, index, isPlain));
                break;
            }
            case 14:
                same("digitSum" + behind, () -> desk.digitSum(cell, radix, isPlain),
                    () -> model.digitSum(cell, radix, isPlain));
                same("isMirror" + behind, () -> desk.isMirror(cell, radix, isPlain),
                    () -> model.isMirror(cell, radix, isPlain));
                break;
            default:
                same("longest" + behind, () -> desk.longest(radix, isPlain), () -> model.longest(radix, isPlain));
                break;
        }
    }

    private void callOfBits(int which) {
        int cell = cell();
        String behind = "(" + cell + ")";
        switch (which) {
            case 16: same("count" + behind, () -> desk.count(cell), () -> model.count(cell)); break;
            case 17: same("leading" + behind, () -> desk.leading(cell), () -> model.leading(cell)); break;
            case 18: same("trailing" + behind, () -> desk.trailing(cell), () -> model.trailing(cell)); break;
            case 19: same("leadingOnes" + behind, () -> desk.leadingOnes(cell), () -> model.leadingOnes(cell)); break;
            case 20: same("trailingOnes" + behind, () -> desk.trailingOnes(cell), () -> model.trailingOnes(cell)); break;
            case 21: same("sign" + behind, () -> desk.sign(cell), () -> model.sign(cell)); break;
            case 22: same("reverse" + behind, () -> desk.reverse(cell), () -> model.reverse(cell)); break;
            case 23: same("reverseBytes" + behind, () -> desk.reverseBytes(cell), () -> model.reverseBytes(cell)); break;
            case 24: same("highest" + behind, () -> desk.highest(cell), () -> model.highest(cell)); break;
            case 25: same("lowest" + behind, () -> desk.lowest(cell), () -> model.lowest(cell)); break;
            case 26: same("spread" + behind, () -> desk.spread(cell), () -> model.spread(cell)); break;
            case 27:
            case 28: {
                int distance = dice.below(3) == 0 ? (int) number() : dice.below(140) - 70;
                boolean isLeft = dice.below(2) == 0;
                same("rotate" + behind + " " + distance + " " + isLeft, () -> desk.rotate(cell, distance, isLeft),
                    () -> model.rotate(cell, distance, isLeft));
                break;
            }
            case 29:
            case 30: {
                long number = number();
                same("set" + behind + " " + number, () -> desk.set(cell, number), () -> model.set(cell, number));
                break;
            }
            default: same("number" + behind, () -> desk.number(cell), () -> model.number(cell)); break;
        }
    }

    private void callOfMany(int which) {
        int cell = cell();
        int other = cell();
        int third = cell();
        boolean isPlain = dice.below(2) == 0;
        String behind = "(" + cell + ", " + other + ", " + third + ", " + isPlain + ")";
        switch (which) {
            case 32:
            case 33:
            case 34: {
                int how = dice.below(20) == 0 ? (int) number() : dice.below(6);
                same("combine by " + how + behind, () -> desk.combine(cell, other, how),
                    () -> model.combine(cell, other, how));
                break;
            }
            case 35:
            case 36:
                same("divide" + behind, () -> desk.divide(cell, other, third, isPlain),
                    () -> model.divide(cell, other, third, isPlain));
                break;
            case 37:
                same("compare" + behind, () -> desk.compare(cell, other, isPlain),
                    () -> model.compare(cell, other, isPlain));
                break;
            case 38: same("sort" + behind, () -> desk.sort(isPlain), () -> model.sort(isPlain)); break;
            case 39: same("setWide" + behind, () -> desk.setWide(isPlain), () -> model.setWide(isPlain)); break;
            case 40: {
                long first = number();
                long step = number();
                same("fill " + first + " " + step, () -> desk.fill(first, step), () -> model.fill(first, step));
                break;
            }
            case 41: same("meanCount()", () -> desk.meanCount(), () -> model.meanCount()); break;
            case 42: same("negativeShare()", () -> desk.negativeShare(), () -> model.negativeShare()); break;
            case 43: same("errors()", () -> desk.errors(), () -> 0); break;
            case 44:
                same("isWide()", () -> desk.isWide(), () -> model.isWide);
                same("textLength()", () -> desk.textLength(), () -> model.text.length());
                same("pageLength()", () -> desk.pageLength(), () -> model.page.length());
                break;
            default:
                if (dice.below(5) != 0) {
                    retype(program());
                }
                same("errorKind()", () -> desk.errorKind(), () -> model.errorKind());
                same("errorPlace()", () -> desk.errorPlace(), () -> model.errorPlace());
                same("run()", () -> desk.run(), () -> model.run());
                break;
        }
    }
}
