import java.math.BigInteger;
import java.util.ArrayList;
import java.util.List;
import java.util.NoSuchElementException;

/** The document once more, written with BigInteger and String, to be compared with the class. */
final class Model {
    private static final BigInteger ONE = BigInteger.ONE;
    private static final List<String> CELL = List.of("reverse", "bytes", "highest", "lowest", "spread");
    private static final List<String> TWO = List.of("count", "leading", "trailing", "ones", "left", "right",
        "add", "subtract", "multiply", "and", "or", "xor");
    private static final List<String> THREE = List.of("divide", "divideplain", "compare", "compareplain");
    private static final List<String> TEXTS = List.of("read", "readplain");
    private static final List<String> PAGES = List.of("write", "writeplain", "back", "backplain");

    boolean isWide = false;
    final BigInteger[] cells = new BigInteger[8];
    String text = "";
    String page = "";

    Model() {
        for (int k = 0; k < 8; k++) {
            cells[k] = BigInteger.ZERO;
        }
    }

    // Numbers.

    int width() {
        return isWide ? 64 : 32;
    }

    private void cell(int cell) {
        if (cell < 0 || cell > 7) {
            throw new IndexOutOfBoundsException();
        }
    }

    private static BigInteger modulo(BigInteger number, int bits) {
        return number.mod(ONE.shiftLeft(bits));
    }

    private BigInteger plain(int cell) {
        return modulo(cells[cell], width());
    }

    private BigInteger signed(int cell) {
        BigInteger plain = plain(cell);
        return plain.testBit(width() - 1) ? plain.subtract(ONE.shiftLeft(width())) : plain;
    }

    private BigInteger value(int cell, boolean isPlain) {
        return isPlain ? plain(cell) : signed(cell);
    }

    private long put(int cell, BigInteger number) {
        cells[cell] = modulo(number, width());
        cells[cell] = modulo(signed(cell), 64);
        return number(cell);
    }

    long number(int cell) {
        cell(cell);
        return signed(cell).longValueExact();
    }

    long set(int cell, long number) {
        long before = number(cell);
        cells[cell] = modulo(BigInteger.valueOf(number), 64);
        return before;
    }

    long fill(long first, long step) {
        for (int k = 0; k < 8; k++) {
            cells[k] = modulo(BigInteger.valueOf(step).multiply(BigInteger.valueOf(k)).add(BigInteger.valueOf(first)), 64);
        }
        return number(7);
    }

    boolean setWide(boolean now) {
        boolean before = isWide;
        isWide = now;
        return before;
    }

    // The text.

    private int append(String more) {
        if (text.length() + more.length() > 300) {
            throw new IllegalStateException();
        }
        text += more;
        return text.length();
    }

    int type(long bytes) {
        StringBuilder more = new StringBuilder();
        for (byte one : BigInteger.valueOf(bytes).toByteArray()) {
            more.append(one == 0 ? "" : String.valueOf((char) (one & 255)));
        }
        if (bytes < 0) {
            int missing = 8 - BigInteger.valueOf(bytes).toByteArray().length;
            more.insert(0, "\u00ff".repeat(missing));
        }
        return append(more.toString());
    }

    int clearText() {
        int before = text.length();
        text = "";
        return before;
    }

    static int byteAt(String row, int index) {
        if (index < 0 || index >= row.length()) {
            throw new IndexOutOfBoundsException();
        }
        return row.charAt(index);
    }

    // Reading and writing.

    static String written(BigInteger value, int radix) {
        return value.toString(radix < 2 || radix > 36 ? 10 : radix);
    }

    private BigInteger readable(String piece, int radix, boolean isPlain, int width) {
        if (radix < 2 || radix > 36) {
            return null;
        }
        String most = Integer.toString(radix - 1, radix);
        String digits = radix <= 10 ? "[0-" + most + "]" : "[0-9a-" + most + "A-" + most.toUpperCase() + "]";
        if (!piece.matches("(?s)[+" + (isPlain ? "" : "-") + "]?" + digits + "+")) {
            return null;
        }
        BigInteger number = new BigInteger(piece, radix);
        BigInteger least = isPlain ? BigInteger.ZERO : ONE.shiftLeft(width - 1).negate();
        BigInteger behind = ONE.shiftLeft(isPlain ? width : width - 1);
        return number.compareTo(least) < 0 || number.compareTo(behind) >= 0 ? null : number;
    }

    private boolean take(int cell, String piece, int radix, boolean isPlain) {
        BigInteger number = readable(piece, radix, isPlain, width());
        if (number != null) {
            put(cell, number);
        }
        return number != null;
    }

    boolean read(int cell, int from, int to, int radix, boolean isPlain) {
        cell(cell);
        if (from < 0 || to < from || to > text.length()) {
            throw new IndexOutOfBoundsException();
        }
        return take(cell, text.substring(from, to), radix, isPlain);
    }

    boolean readPage(int cell, int radix, boolean isPlain) {
        cell(cell);
        return take(cell, page, radix, isPlain);
    }

    int write(int cell, int radix, boolean isPlain) {
        cell(cell);
        page = written(value(cell, isPlain), radix);
        return page.length();
    }

    int writeBits(int cell, int kind) {
        cell(cell);
        if (kind < 0 || kind > 2) {
            throw new IllegalArgumentException();
        }
        return write(cell, new int[] {16, 8, 2}[kind], true);
    }

    int copyPage() {
        return append(page);
    }

    private String digits(int cell, int radix, boolean isPlain) {
        cell(cell);
        return written(value(cell, isPlain).abs(), radix);
    }

    int digitAt(int cell, int radix, int index, boolean isPlain) {
        String digits = digits(cell, radix, isPlain);
        if (index < 0 || index >= digits.length()) {
            throw new NoSuchElementException();
        }
        return Character.digit(digits.charAt(digits.length() - 1 - index), 36);
    }

    int digitSum(int cell, int radix, boolean isPlain) {
        return digits(cell, radix, isPlain).chars().map(one -> Character.digit(one, 36)).sum();
    }

    boolean isMirror(int cell, int radix, boolean isPlain) {
        String digits = digits(cell, radix, isPlain);
        return new StringBuilder(digits).reverse().toString().equals(digits);
    }

    int longest(int radix, boolean isPlain) {
        int best = 0;
        for (int k = 1; k < 8; k++) {
            if (written(value(k, isPlain), radix).length() > written(value(best, isPlain), radix).length()) {
                best = k;
            }
        }
        return best;
    }

    // Bits: a row of 0 and 1, the highest one first.

    private String row(int cell) {
        cell(cell);
        String bits = plain(cell).toString(2);
        return "0".repeat(width() - bits.length()) + bits;
    }

    private long putRow(int cell, String row) {
        return put(cell, new BigInteger(row, 2));
    }

    int count(int cell) {
        return row(cell).replace("0", "").length();
    }

    int leading(int cell) {
        return (row(cell) + "1").indexOf('1');
    }

    int trailing(int cell) {
        return (new StringBuilder(row(cell)).reverse() + "1").indexOf('1');
    }

    int leadingOnes(int cell) {
        return (row(cell) + "0").indexOf('0');
    }

    int trailingOnes(int cell) {
        return (new StringBuilder(row(cell)).reverse() + "0").indexOf('0');
    }

    int sign(int cell) {
        return Long.signum(number(cell));
    }

    long reverse(int cell) {
        return putRow(cell, new StringBuilder(row(cell)).reverse().toString());
    }

    long reverseBytes(int cell) {
        StringBuilder turned = new StringBuilder();
        String row = row(cell);
        for (int k = width() - 8; k >= 0; k -= 8) {
            turned.append(row, k, k + 8);
        }
        return putRow(cell, turned.toString());
    }

    long rotate(int cell, int distance, boolean isLeft) {
        String row = row(cell);
        int places = Math.floorMod(distance, width());
        int cut = isLeft ? places : width() - places;
        return putRow(cell, row.substring(cut) + row.substring(0, cut));
    }

    long highest(int cell) {
        int at = row(cell).indexOf('1');
        return put(cell, at < 0 ? BigInteger.ZERO : ONE.shiftLeft(width() - 1 - at));
    }

    long lowest(int cell) {
        int at = row(cell).lastIndexOf('1');
        return put(cell, at < 0 ? BigInteger.ZERO : ONE.shiftLeft(width() - 1 - at));
    }

    long spread(int cell) {
        cell(cell);
        cells[cell] = modulo(cells[cell], 32);
        return number(cell);
    }

    // Two numbers and more.

    long combine(int cell, int other, int how) {
        cell(cell);
        cell(other);
        BigInteger a = signed(cell);
        BigInteger b = signed(other);
        switch (how) {
            case 0: return put(cell, a.add(b));
            case 1: return put(cell, a.subtract(b));
            case 2: return put(cell, a.multiply(b));
            case 3: return put(cell, a.and(b));
            case 4: return put(cell, a.or(b));
            case 5: return put(cell, a.xor(b));
            default: throw new IllegalArgumentException();
        }
    }

    boolean divide(int cell, int by, int rest, boolean isPlain) {
        cell(cell);
        cell(by);
        cell(rest);
        if (value(by, isPlain).signum() == 0) {
            return false;
        }
        BigInteger[] parts = value(cell, isPlain).divideAndRemainder(value(by, isPlain));
        put(cell, parts[0]);
        put(rest, parts[1]);
        return true;
    }

    int compare(int cell, int other, boolean isPlain) {
        cell(cell);
        cell(other);
        return value(cell, isPlain).compareTo(value(other, isPlain));
    }

    int sort(boolean isPlain) {
        List<Integer> order = new ArrayList<>(List.of(0, 1, 2, 3, 4, 5, 6, 7));
        order.sort((a, b) -> value(a, isPlain).compareTo(value(b, isPlain)));
        BigInteger[] before = cells.clone();
        int moved = 0;
        for (int k = 0; k < 8; k++) {
            cells[k] = before[order.get(k)];
            moved += cells[k].equals(before[k]) ? 0 : 1;
        }
        return moved;
    }

    double meanCount() {
        double sum = 0;
        for (int k = 0; k < 8; k++) {
            sum += count(k);
        }
        return sum / 8.0;
    }

    float negativeShare() {
        float below = 0;
        for (int k = 0; k < 8; k++) {
            below += sign(k) < 0 ? 1 : 0;
        }
        return below / 8.0f;
    }

    // Programs: a statement is the list of its words with their places; a block is a list of statements.

    private static final class Fault extends RuntimeException {
        private static final long serialVersionUID = 1L;
        final int kind;
        final int place;

        Fault(int kind, int place) {
            this.kind = kind;
            this.place = place;
        }
    }

    private record Word(String signs, int place) {
    }

    private record Statement(List<Word> words, List<Statement> block) {
        int number(int k) {
            return new BigInteger(words.get(k).signs).intValueExact();
        }
    }

    private List<Word> rest;
    private int steps;

    private List<Word> split() {
        List<Word> words = new ArrayList<>();
        java.util.regex.Matcher matcher = java.util.regex.Pattern.compile("[;{}]|[^;{} \n]+").matcher(text);
        while (matcher.find()) {
            words.add(new Word(matcher.group(), matcher.start()));
        }
        words.add(new Word("", text.length()));
        return words;
    }

    private Word next() {
        return rest.get(0);
    }

    private Word expect(String signs) {
        if (!next().signs.equals(signs)) {
            throw new Fault(1, next().place);
        }
        return rest.remove(0);
    }

    private Word argument(char kind) {
        Word word = next();
        if (word.signs.isEmpty() || ";{}".contains(word.signs)) {
            throw new Fault(1, word.place);
        }
        BigInteger number = readable(word.signs, 10, false, 64);
        long least = kind == 'R' ? 2 : kind == 'N' ? Long.MIN_VALUE : 0;
        long most = kind == 'C' ? 7 : kind == 'R' ? 36 : kind == 'T' ? 50 : Long.MAX_VALUE;
        if (kind != 'P' && (number == null || number.longValue() < least || number.longValue() > most)) {
            throw new Fault(2, word.place);
        }
        return rest.remove(0);
    }

    private static String arguments(Word word) {
        String signs = word.signs;
        return signs.equals("wide") || signs.equals("narrow") ? "" : signs.equals("set") ? "CN"
            : TEXTS.contains(signs) ? "CRP" : PAGES.contains(signs) ? "CR" : CELL.contains(signs) ? "C"
            : TWO.contains(signs) ? "CC" : THREE.contains(signs) ? "CCC" : signs.equals("loop") ? "T" : null;
    }

    private List<Statement> block(int depth) {
        List<Statement> block = new ArrayList<>();
        while (!next().signs.isEmpty() && !next().signs.equals("}")) {
            Word verb = next();
            String arguments = arguments(verb);
            if (arguments == null) {
                throw new Fault(1, verb.place);
            }
            if (verb.signs.equals("loop") && depth == 4) {
                throw new Fault(2, verb.place);
            }
            List<Word> words = new ArrayList<>();
            words.add(rest.remove(0));
            for (char kind : arguments.toCharArray()) {
                words.add(argument(kind));
            }
            List<Statement> inner = null;
            if (verb.signs.equals("loop")) {
                expect("{");
                inner = block(depth + 1);
                expect("}");
            } else {
                expect(";");
            }
            block.add(new Statement(words, inner));
        }
        return block;
    }

    private void carryOut(List<Statement> block) {
        for (Statement statement : block) {
            int place = statement.words.get(0).place;
            if (steps == 500) {
                throw new Fault(4, place);
            }
            steps++;
            if (statement.block != null) {
                for (int k = statement.number(1); k > 0; k--) {
                    carryOut(statement.block);
                }
            } else if (!canDo(statement)) {
                throw new Fault(3, place);
            }
        }
    }

    private boolean canDo(Statement statement) {
        String verb = statement.words.get(0).signs;
        boolean isPlain = verb.endsWith("plain");
        int count = statement.words.size();
        int a = count > 1 ? statement.number(1) : 0;
        int b = count > 2 && !verb.equals("set") ? statement.number(2) : 0;
        int c = count > 3 && !TEXTS.contains(verb) ? statement.number(3) : 0;
        switch (verb) {
            case "wide": isWide = true; return true;
            case "narrow": isWide = false; return true;
            case "set": set(a, new BigInteger(statement.words.get(2).signs).longValueExact()); return true;
            case "read":
            case "readplain": return take(a, statement.words.get(3).signs, b, isPlain);
            case "write":
            case "writeplain": write(a, b, isPlain); return true;
            case "back":
            case "backplain": return readPage(a, b, isPlain);
            case "reverse": reverse(a); return true;
            case "bytes": reverseBytes(a); return true;
            case "highest": highest(a); return true;
            case "lowest": lowest(a); return true;
            case "spread": spread(a); return true;
            case "count": put(b, BigInteger.valueOf(count(a))); return true;
            case "leading": put(b, BigInteger.valueOf(leading(a))); return true;
            case "trailing": put(b, BigInteger.valueOf(trailing(a))); return true;
            case "ones": put(b, BigInteger.valueOf(trailingOnes(a))); return true;
            case "left":
            case "right": rotate(a, cells[b].intValue(), verb.equals("left")); return true;
            case "divide":
            case "divideplain": return divide(a, b, c, isPlain);
            case "compare":
            case "compareplain": put(c, BigInteger.valueOf(compare(a, b, isPlain))); return true;
            default: combine(a, b, List.of("add", "subtract", "multiply", "and", "or", "xor").indexOf(verb)); return true;
        }
    }

    private void become(Model other) {
        isWide = other.isWide;
        page = other.page;
        System.arraycopy(other.cells, 0, cells, 0, 8);
    }

    private Model copy() {
        Model copy = new Model();
        copy.become(this);
        copy.text = text;
        return copy;
    }

    private void tryOut() {
        rest = split();
        List<Statement> program = block(0);
        if (rest.size() > 1) {
            throw new Fault(1, next().place);
        }
        carryOut(program);
    }

    int errorKind() {
        try {
            copy().tryOut();
            return 0;
        } catch (Fault fault) {
            return fault.kind;
        }
    }

    int errorPlace() {
        try {
            copy().tryOut();
            return -1;
        } catch (Fault fault) {
            return fault.place;
        }
    }

    int run() {
        Model copy = copy();
        try {
            copy.tryOut();
        } catch (Fault fault) {
            throw new IllegalStateException();
        }
        become(copy);
        return copy.steps;
    }
}
