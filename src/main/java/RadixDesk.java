import java.util.NoSuchElementException;

/** A desk for whole numbers that are written in any radix from 2 to 36 and taken apart bit by bit. */
public final class RadixDesk {
    public static final int NONE = -1;
    public static final int HEX = 0, OCTAL = 1, BINARY = 2;
    public static final int ADD = 0, SUBTRACT = 1, MULTIPLY = 2, AND = 3, OR = 4, XOR = 5;

    private static final int CELLS = 8;
    private static final int MOST_TEXT = 300;
    /** A minus and 64 digits: what a wide desk writes of -2^63 in radix 2. */
    private static final int MOST_PAGE = 65;
    /** The shortest statement, "wide;", has five bytes. */
    private static final int MOST_STATEMENTS = MOST_TEXT / 5;
    private static final int MOST_STEPS = 500;
    private static final int MOST_DEPTH = 4;
    private static final int MOST_TIMES = 50;
    private static final int MOST_ARGUMENTS = 3;

    private static final int LEAST_RADIX = 2;
    private static final int MOST_RADIX = 36;
    private static final int TEN = 10;

    private static final int LINE_FEED = 10;
    private static final int BLANK = 32;
    private static final int PLUS = 43;
    private static final int MINUS = 45;

    private static final long LOW_HALF = 0xffffffffL;
    private static final long MOST_NARROW = 0x7fffffffL;
    private static final long MOST_WIDE = 0x7fffffffffffffffL;
    private static final long LEAST_WIDE = 0x8000000000000000L;

    private static final int NO_ERROR = 0;
    private static final int WRONG_WORD = 1;
    private static final int WRONG_NUMBER = 2;
    private static final int NOT_DONE = 3;
    private static final int TOO_MANY_STEPS = 4;

    private static final String EXAMPLE_0 =
        "set 0 1 ; set 1 3 ; loop 40 { multiply 0 1 ; write 0 7 ; back 2 7 ; subtract 2 0 ; count 2 3 ; add 4 3 ; }";
    private static final String EXAMPLE_1 =
        "wide ; set 0 -1 ; read 1 36 zik0zj ; loop 20 { divideplain 0 1 2 ; xor 3 2 ; reverse 3 ; set 5 13 ; left 3 5 ; add 0 3 ; writeplain 3 16 ; backplain 6 16 ; }";
    private static final String EXAMPLE_2 =
        "narrow ; set 0 12345 ; set 6 -1 ; loop 5 { loop 10 { bytes 0 ; left 0 6 ; writeplain 0 35 ; backplain 1 35 ; compareplain 0 1 2 ; or 3 2 ; leading 0 4 ; add 5 4 ; } }";

    private final Desk desk;
    private final Row text;
    /** What write() would write, for the calls that only ask about it. */
    private final Row sheet;
    private final Program program;
    private final Theorem theorem;

    public RadixDesk() {
        desk = new Desk();
        text = new Row(MOST_TEXT);
        sheet = new Row(MOST_PAGE);
        program = new Program();
        theorem = new Theorem();
    }

    public boolean setWide(boolean isWide) {
        boolean wasWide = desk.isWide;
        desk.isWide = isWide;
        return wasWide;
    }

    public boolean isWide() {
        return desk.isWide;
    }

    public long set(int cell, long number) throws IndexOutOfBoundsException {
        checkCell(cell);
        long before = desk.signed(cell);
        desk.keep(cell, number);
        return before;
    }

    public long fill(long first, long step) {
        for (int k = 0; k < CELLS; k++) {
            desk.keep(k, first + k * step);
        }
        return desk.signed(CELLS - 1);
    }

    public long number(int cell) throws IndexOutOfBoundsException {
        checkCell(cell);
        return desk.signed(cell);
    }

    public int type(long bytes) throws IllegalStateException {
        checkRoom(bytesWithin(bytes));
        for (int shift = 56; shift >= 0; shift -= 8) {
            int one = byteOf(bytes, shift);
            if (one != 0) {
                text.append(one);
            }
        }
        return text.size();
    }

    public int clearText() {
        int before = text.size();
        text.empty();
        return before;
    }

    public int textLength() {
        return text.size();
    }

    public int textAt(int index) throws IndexOutOfBoundsException {
        return byteFrom(text, index);
    }

    public int example(int which) throws IllegalArgumentException {
        if (which < 0 || which > 2) {
            throw new IllegalArgumentException("there is no such example");
        }
        text.becomeText(which == 0 ? EXAMPLE_0 : which == 1 ? EXAMPLE_1 : EXAMPLE_2);
        return text.size();
    }

    public boolean read(int cell, int from, int to, int radix, boolean isPlain) throws IndexOutOfBoundsException {
        checkCell(cell);
        if (from < 0 || to < from || to > text.size()) {
            throw new IndexOutOfBoundsException("the text has no such piece");
        }
        return desk.takePiece(cell, text, from, to, radix, isPlain);
    }

    public int write(int cell, int radix, boolean isPlain) throws IndexOutOfBoundsException {
        checkCell(cell);
        desk.writePage(cell, radix, isPlain);
        return desk.page.size();
    }

    public int writeBits(int cell, int kind) throws IndexOutOfBoundsException, IllegalArgumentException {
        checkCell(cell);
        if (kind < HEX || kind > BINARY) {
            throw new IllegalArgumentException("there is no such kind of writing");
        }
        desk.writePage(cell, kind == HEX ? 16 : kind == OCTAL ? 8 : 2, true);
        return desk.page.size();
    }

    public int writeTen(int cell, boolean isPlain) throws IndexOutOfBoundsException {
        checkCell(cell);
        desk.writePage(cell, TEN, isPlain);
        return desk.page.size();
    }

    public int pageLength() {
        return desk.page.size();
    }

    public int pageAt(int index) throws IndexOutOfBoundsException {
        return byteFrom(desk.page, index);
    }

    public int copyPage() throws IllegalStateException {
        checkRoom(desk.page.size());
        text.appendRow(desk.page);
        return text.size();
    }

    public boolean readPage(int cell, int radix, boolean isPlain) throws IndexOutOfBoundsException {
        checkCell(cell);
        return desk.takePage(cell, radix, isPlain);
    }

    public int digitAt(int cell, int radix, int index, boolean isPlain)
            throws IndexOutOfBoundsException, NoSuchElementException {
        checkCell(cell);
        int first = writeOnSheet(cell, radix, isPlain);
        if (index < 0 || index >= sheet.size() - first) {
            throw new NoSuchElementException("there is no such digit");
        }
        return Digits.valueOf(sheet.byteAt(sheet.size() - 1 - index));
    }

    public int digitSum(int cell, int radix, boolean isPlain) throws IndexOutOfBoundsException {
        checkCell(cell);
        int sum = 0;
        for (int k = writeOnSheet(cell, radix, isPlain); k < sheet.size(); k++) {
            sum += Digits.valueOf(sheet.byteAt(k));
        }
        return sum;
    }

    public boolean isMirror(int cell, int radix, boolean isPlain) throws IndexOutOfBoundsException {
        checkCell(cell);
        int front = writeOnSheet(cell, radix, isPlain);
        for (int back = sheet.size() - 1; back > front; back--) {
            if (sheet.byteAt(front) != sheet.byteAt(back)) {
                return false;
            }
            front++;
        }
        return true;
    }

    public int longest(int radix, boolean isPlain) {
        int best = 0;
        int most = 0;
        for (int k = 0; k < CELLS; k++) {
            writeOnSheet(k, radix, isPlain);
            if (sheet.size() > most) {
                most = sheet.size();
                best = k;
            }
        }
        return best;
    }

    public int count(int cell) throws IndexOutOfBoundsException {
        checkCell(cell);
        return desk.ones(cell);
    }

    public int leading(int cell) throws IndexOutOfBoundsException {
        checkCell(cell);
        return desk.zerosInFront(cell);
    }

    public int trailing(int cell) throws IndexOutOfBoundsException {
        checkCell(cell);
        return desk.zerosBehind(cell);
    }

    public int leadingOnes(int cell) throws IndexOutOfBoundsException {
        checkCell(cell);
        return desk.onesInFront(cell);
    }

    public int trailingOnes(int cell) throws IndexOutOfBoundsException {
        checkCell(cell);
        return desk.onesBehind(cell);
    }

    public int sign(int cell) throws IndexOutOfBoundsException {
        checkCell(cell);
        return Long.signum(desk.signed(cell));
    }

    public long reverse(int cell) throws IndexOutOfBoundsException {
        checkCell(cell);
        return desk.put(cell, desk.bitsTurned(cell));
    }

    public long reverseBytes(int cell) throws IndexOutOfBoundsException {
        checkCell(cell);
        return desk.put(cell, desk.bytesTurned(cell));
    }

    public long rotate(int cell, int distance, boolean isLeft) throws IndexOutOfBoundsException {
        checkCell(cell);
        return desk.put(cell, desk.rotated(cell, distance, isLeft));
    }

    public long highest(int cell) throws IndexOutOfBoundsException {
        checkCell(cell);
        return desk.put(cell, desk.highestBit(cell));
    }

    public long lowest(int cell) throws IndexOutOfBoundsException {
        checkCell(cell);
        return desk.put(cell, desk.lowestBit(cell));
    }

    public long spread(int cell) throws IndexOutOfBoundsException {
        checkCell(cell);
        desk.clearUpperHalf(cell);
        return desk.signed(cell);
    }

    public long combine(int cell, int other, int how) throws IndexOutOfBoundsException, IllegalArgumentException {
        checkCell(cell);
        checkCell(other);
        if (how < ADD || how > XOR) {
            throw new IllegalArgumentException("there is no such way to combine");
        }
        return desk.put(cell, desk.combined(cell, other, how));
    }

    public boolean divide(int cell, int by, int rest, boolean isPlain) throws IndexOutOfBoundsException {
        checkCell(cell);
        checkCell(by);
        checkCell(rest);
        return desk.divideInto(cell, by, rest, isPlain);
    }

    public int compare(int cell, int other, boolean isPlain) throws IndexOutOfBoundsException {
        checkCell(cell);
        checkCell(other);
        return desk.compared(cell, other, isPlain);
    }

    public int sort(boolean isPlain) {
        return desk.sortCells(isPlain);
    }

    public int errorKind() {
        program.tryOut(text, desk);
        return program.errorKind;
    }

    public int errorPlace() {
        program.tryOut(text, desk);
        return program.errorPlace;
    }

    public int run() throws IllegalStateException {
        program.tryOut(text, desk);
        if (program.errorKind != NO_ERROR) {
            throw new IllegalStateException("the text has an error");
        }
        desk.become(program.trial);
        return program.steps;
    }

    public int errors() {
        return theorem.failures(desk);
    }

    public double meanCount() {
        int sum = 0;
        for (int k = 0; k < CELLS; k++) {
            sum += desk.ones(k);
        }
        return (double) sum / 8.0;
    }

    public float negativeShare() {
        int below = 0;
        for (int k = 0; k < CELLS; k++) {
            if (desk.signed(k) < 0) {
                below++;
            }
        }
        return (float) below / 8.0f;
    }

    private static void checkCell(int cell) {
        if (cell < 0 || cell >= CELLS) {
            throw new IndexOutOfBoundsException("there is no such cell");
        }
    }

    private void checkRoom(int more) {
        if (text.size() + more > MOST_TEXT) {
            throw new IllegalStateException("the text would be too long");
        }
    }

    private static int byteFrom(Row row, int index) {
        if (index < 0 || index >= row.size()) {
            throw new IndexOutOfBoundsException("there is no such byte");
        }
        return row.byteAt(index);
    }

    private static int byteOf(long bytes, int shift) {
        return (int) (bytes >>> shift) & 255;
    }

    private static int bytesWithin(long bytes) {
        int found = 0;
        for (int shift = 56; shift >= 0; shift -= 8) {
            if (byteOf(bytes, shift) != 0) {
                found++;
            }
        }
        return found;
    }

    /** Returns the index of the first digit: 1 behind a minus, else 0. */
    private int writeOnSheet(int cell, int radix, boolean isPlain) {
        Digits.writeOn(sheet, desk.valueOf(cell, isPlain), radix, isPlain);
        return sheet.byteAt(0) == MINUS ? 1 : 0;
    }

    /** Bytes, as many as there is room for: the text, or a page. */
    private static final class Row {
        private final int[] bytes;
        private int length;

        Row(int room) {
            bytes = new int[Math.max(room, 0)];
        }

        int size() {
            return length;
        }

        /** Outside of the row there is 0, which is no byte of a text or a page. */
        int byteAt(int index) {
            return index >= 0 && index < length ? bytes[index] : 0;
        }

        void empty() {
            length = 0;
        }

        void append(int one) {
            if (length < bytes.length) {
                bytes[length] = one;
                length++;
            }
        }

        void appendRow(Row other) {
            int more = other.length;
            for (int k = 0; k < more; k++) {
                append(other.byteAt(k));
            }
        }

        void become(Row other) {
            empty();
            appendRow(other);
        }

        void becomeText(String signs) {
            empty();
            for (int k = 0; k < signs.length(); k++) {
                append(signs.charAt(k));
            }
        }

        void turnAround() {
            int front = 0;
            for (int back = length - 1; back > front; back--) {
                int one = bytes[front];
                bytes[front] = bytes[back];
                bytes[back] = one;
                front++;
            }
        }
    }

    /** What digits stand for, and how a number becomes digits. */
    private static final class Digits {
        static boolean isRadix(int radix) {
            return radix >= LEAST_RADIX && radix <= MOST_RADIX;
        }

        static int valueOf(int one) {
            if (one >= '0' && one <= '9') {
                return one - '0';
            }
            if (one >= 'a' && one <= 'z') {
                return one - 'a' + 10;
            }
            if (one >= 'A' && one <= 'Z') {
                return one - 'A' + 10;
            }
            return NONE;
        }

        static int byteFor(int digit) {
            return digit < 10 ? '0' + digit : 'a' + digit - 10;
        }

        static void writeOn(Row row, long number, int radix, boolean isPlain) {
            int base = isRadix(radix) ? radix : TEN;
            boolean isBelow = !isPlain && number < 0;
            // The size of -2^63 is 2^63, which only fits if what is left is taken as plain.
            long left = isBelow ? -number : number;
            row.empty();
            for (int k = 0; k < 64 && (k == 0 || left != 0); k++) {
                long quotient = Bits.plainQuotient(left, base);
                row.append(byteFor((int) (left - quotient * base)));
                left = quotient;
            }
            if (isBelow) {
                row.append(MINUS);
            }
            row.turnAround();
        }
    }

    /** Reads a piece of a row, and has the number if it could be read. */
    private static final class Reader {
        private long value;

        boolean canRead(Row row, int from, int to, int radix, boolean isPlain, boolean isWide) {
            int lead = row.byteAt(from);
            boolean isBelow = lead == MINUS;
            int first = isBelow || lead == PLUS ? from + 1 : from;
            if (!Digits.isRadix(radix) || first >= to || isBelow && isPlain) {
                return false;
            }
            long most = mostSize(isBelow, isPlain, isWide);
            long mostInFront = Bits.plainQuotient(most, radix);
            long mostAtLast = most - mostInFront * radix;
            long size = 0;
            for (int k = first; k < to; k++) {
                int digit = Digits.valueOf(row.byteAt(k));
                if (digit < 0 || digit >= radix) {
                    return false;
                }
                // Asked before the size grows: past 64 bits it would wrap round unseen.
                int order = Bits.plainOrder(size, mostInFront);
                if (order > 0 || order == 0 && digit > mostAtLast) {
                    return false;
                }
                size = size * radix + digit;
            }
            value = isBelow ? -size : size;
            return true;
        }

        private static long mostSize(boolean isBelow, boolean isPlain, boolean isWide) {
            if (isPlain) {
                return isWide ? -1L : LOW_HALF;
            }
            long most = isWide ? MOST_WIDE : MOST_NARROW;
            return isBelow ? most + 1 : most;
        }
    }

    /**
     * What a number is by its bits. Where the width is asked, its W bits alone count, and what is above them in an
     * answer is free; a plain number fills all 64.
     */
    private static final class Bits {
        static long signed(long bits, boolean isWide) {
            return isWide ? bits : (int) bits;
        }

        static long plain(long bits, boolean isWide) {
            return isWide ? bits : bits & LOW_HALF;
        }

        static int zerosInFront(long bits, boolean isWide) {
            return isWide ? Long.numberOfLeadingZeros(bits) : Integer.numberOfLeadingZeros((int) bits);
        }

        static int zerosBehind(long bits, boolean isWide) {
            return isWide ? Long.numberOfTrailingZeros(bits) : Integer.numberOfTrailingZeros((int) bits);
        }

        static long turned(long bits, boolean isWide) {
            return isWide ? Long.reverse(bits) : Integer.reverse((int) bits);
        }

        static long bytesTurned(long bits, boolean isWide) {
            return isWide ? Long.reverseBytes(bits) : Integer.reverseBytes((int) bits);
        }

        static long rotatedLeft(long bits, int distance, boolean isWide) {
            return isWide ? Long.rotateLeft(bits, distance) : Integer.rotateLeft((int) bits, distance);
        }

        static long rotatedRight(long bits, int distance, boolean isWide) {
            return isWide ? Long.rotateRight(bits, distance) : Integer.rotateRight((int) bits, distance);
        }

        static long highestBit(long bits, boolean isWide) {
            return isWide ? Long.highestOneBit(bits) : Integer.highestOneBit((int) bits);
        }

        static long lowestBit(long bits, boolean isWide) {
            return isWide ? Long.lowestOneBit(bits) : Integer.lowestOneBit((int) bits);
        }

        /** Returns -1 if the first one is less, 0 if they are equal, 1 if it is greater. */
        static int plainOrder(long first, long second) {
            if (first == second) {
                return 0;
            }
            // With their highest bits turned over, plain numbers stand in the order of numbers with a sign.
            return (first ^ LEAST_WIDE) < (second ^ LEAST_WIDE) ? -1 : 1;
        }

        /** What is divided by 0 here becomes 0, so that no call can throw; callers ask for 0 before. */
        static long plainQuotient(long number, long by) {
            if (by <= 0) {
                // A plain number from 2^63 on is in another one at most once, and only if that is from 2^63 on, too.
                return number < 0 && number >= by ? 1 : 0;
            }
            if (number >= 0) {
                return number / by;
            }
            // Half of the number has no highest bit that "/" could take for a sign; twice its quotient may lack 1.
            long quotient = (number >>> 1) / by * 2;
            long left = number - quotient * by;
            return left < 0 || left >= by ? quotient + 1 : quotient;
        }
    }

    /** The cells, the page and the width: what a program works on. */
    private static final class Desk {
        private final long[] cells;
        private final long[] cellsBefore;
        private final Row page;
        private final Reader reader;
        private boolean isWide;

        Desk() {
            cells = new long[CELLS];
            cellsBefore = new long[CELLS];
            page = new Row(MOST_PAGE);
            reader = new Reader();
        }

        void become(Desk other) {
            for (int k = 0; k < cells.length; k++) {
                cells[k] = other.allBits(k);
            }
            page.become(other.page);
            isWide = other.isWide;
        }

        long allBits(int cell) {
            return cell >= 0 && cell < cells.length ? cells[cell] : 0;
        }

        /** All 64 bits become these, also on a narrow desk. */
        void keep(int cell, long bits) {
            if (cell >= 0 && cell < cells.length) {
                cells[cell] = bits;
            }
        }

        /** The W bits become those of the number; returns the number of the cell then. */
        long put(int cell, long number) {
            long kept = Bits.signed(number, isWide);
            keep(cell, kept);
            return kept;
        }

        long signed(int cell) {
            return Bits.signed(allBits(cell), isWide);
        }

        long plain(int cell) {
            return Bits.plain(allBits(cell), isWide);
        }

        long valueOf(int cell, boolean isPlain) {
            return isPlain ? plain(cell) : signed(cell);
        }

        void writePage(int cell, int radix, boolean isPlain) {
            Digits.writeOn(page, valueOf(cell, isPlain), radix, isPlain);
        }

        boolean takePage(int cell, int radix, boolean isPlain) {
            return takePiece(cell, page, 0, page.size(), radix, isPlain);
        }

        boolean takePiece(int cell, Row row, int from, int to, int radix, boolean isPlain) {
            if (!reader.canRead(row, from, to, radix, isPlain, isWide)) {
                return false;
            }
            put(cell, reader.value);
            return true;
        }

        int ones(int cell) {
            return Long.bitCount(plain(cell));
        }

        int zerosInFront(int cell) {
            return Bits.zerosInFront(allBits(cell), isWide);
        }

        int zerosBehind(int cell) {
            return Bits.zerosBehind(allBits(cell), isWide);
        }

        int onesInFront(int cell) {
            return Bits.zerosInFront(~allBits(cell), isWide);
        }

        int onesBehind(int cell) {
            return Bits.zerosBehind(~allBits(cell), isWide);
        }

        long bitsTurned(int cell) {
            return Bits.turned(allBits(cell), isWide);
        }

        long bytesTurned(int cell) {
            return Bits.bytesTurned(allBits(cell), isWide);
        }

        long rotated(int cell, int distance, boolean isLeft) {
            long bits = allBits(cell);
            return isLeft ? Bits.rotatedLeft(bits, distance, isWide) : Bits.rotatedRight(bits, distance, isWide);
        }

        long highestBit(int cell) {
            return Bits.highestBit(allBits(cell), isWide);
        }

        long lowestBit(int cell) {
            return Bits.lowestBit(allBits(cell), isWide);
        }

        void clearUpperHalf(int cell) {
            keep(cell, allBits(cell) & LOW_HALF);
        }

        long combined(int cell, int other, int how) {
            long first = signed(cell);
            long second = signed(other);
            switch (how) {
                case ADD: return first + second;
                case SUBTRACT: return first - second;
                case MULTIPLY: return first * second;
                case AND: return first & second;
                case OR: return first | second;
                default: return first ^ second;
            }
        }

        boolean divideInto(int cell, int by, int rest, boolean isPlain) {
            long first = valueOf(cell, isPlain);
            long second = valueOf(by, isPlain);
            if (second == 0) {
                return false;
            }
            long quotient = isPlain ? Bits.plainQuotient(first, second) : first / second;
            put(cell, quotient);
            put(rest, first - quotient * second);
            return true;
        }

        int compared(int cell, int other, boolean isPlain) {
            long first = valueOf(cell, isPlain);
            long second = valueOf(other, isPlain);
            return isPlain ? Bits.plainOrder(first, second) : Integer.signum(Long.compare(first, second));
        }

        int sortCells(boolean isPlain) {
            for (int k = 0; k < cellsBefore.length; k++) {
                cellsBefore[k] = allBits(k);
            }
            for (int k = 1; k < CELLS; k++) {
                moveForward(k, isPlain);
            }
            int moved = 0;
            for (int k = 0; k < cellsBefore.length; k++) {
                if (allBits(k) != cellsBefore[k]) {
                    moved++;
                }
            }
            return moved;
        }

        private void moveForward(int cell, boolean isPlain) {
            for (int k = cell; k > 0 && compared(k - 1, k, isPlain) > 0; k--) {
                long bits = allBits(k);
                keep(k, allBits(k - 1));
                keep(k - 1, bits);
            }
        }
    }

    /** The first words of the statements, and what must stand behind each. */
    private enum Verb {
        WIDE("wide", ""),
        NARROW("narrow", ""),
        SET("set", "CN"),
        READ("read", "CRP"),
        READ_PLAIN("readplain", "CRP"),
        WRITE("write", "CR"),
        WRITE_PLAIN("writeplain", "CR"),
        BACK("back", "CR"),
        BACK_PLAIN("backplain", "CR"),
        REVERSE("reverse", "C"),
        BYTES("bytes", "C"),
        HIGHEST("highest", "C"),
        LOWEST("lowest", "C"),
        SPREAD("spread", "C"),
        COUNT("count", "CC"),
        LEADING("leading", "CC"),
        TRAILING("trailing", "CC"),
        ONES("ones", "CC"),
        LEFT("left", "CC"),
        RIGHT("right", "CC"),
        ADD("add", "CC"),
        SUBTRACT("subtract", "CC"),
        MULTIPLY("multiply", "CC"),
        AND("and", "CC"),
        OR("or", "CC"),
        XOR("xor", "CC"),
        DIVIDE("divide", "CCC"),
        DIVIDE_PLAIN("divideplain", "CCC"),
        COMPARE("compare", "CCC"),
        COMPARE_PLAIN("compareplain", "CCC"),
        LOOP("loop", "T");

        private static final Verb[] ALL = values();

        private final String word;
        /** A letter an argument: Cell, Number, Radix, Piece, Times. */
        private final String arguments;

        Verb(String word, String arguments) {
            this.word = word;
            this.arguments = arguments;
        }

        static long least(char argument) {
            switch (argument) {
                case 'R': return LEAST_RADIX;
                case 'N': return LEAST_WIDE;
                default: return 0;
            }
        }

        static long most(char argument) {
            switch (argument) {
                case 'C': return CELLS - 1;
                case 'R': return MOST_RADIX;
                case 'T': return MOST_TIMES;
                default: return MOST_WIDE;
            }
        }
    }

    /** A statement of the text, used again for each text: what its verb does not ask for may be of another text. */
    private static final class Statement {
        private final long[] arguments;
        private Verb verb;
        private int place;
        private int pieceFrom;
        private int pieceTo;
        /** The index of the statement behind this one and its block. */
        private int next;

        Statement() {
            arguments = new long[MOST_ARGUMENTS];
            verb = Verb.WIDE;
        }

        void begin(Verb newVerb, int newPlace) {
            verb = newVerb;
            place = newPlace;
        }

        void setArgument(int index, long argument) {
            if (index >= 0 && index < arguments.length) {
                arguments[index] = argument;
            }
        }

        void setPiece(int from, int to) {
            pieceFrom = from;
            pieceTo = to;
        }

        long argument(int index) {
            return index >= 0 && index < arguments.length ? arguments[index] : 0;
        }

        int smallArgument(int index) {
            return (int) argument(index);
        }
    }

    /** The text as a program: it is read as a whole, and then tried on a copy of the desk. */
    private static final class Program {
        private final Statement[] statements;
        private final Words words;
        private final Reader reader;
        private final Desk trial;
        private int size;
        private int steps;
        private int errorKind;
        private int errorPlace;

        Program() {
            statements = new Statement[MOST_STATEMENTS];
            for (int k = 0; k < statements.length; k++) {
                statements[k] = new Statement();
            }
            words = new Words();
            reader = new Reader();
            trial = new Desk();
        }

        void tryOut(Row text, Desk desk) {
            size = 0;
            steps = 0;
            errorKind = NO_ERROR;
            errorPlace = NONE;
            trial.become(desk);
            words.begin(text);
            parseBlock(0);
            expectEnd();
            carryOutBlock(0, size, 0);
        }

        private void fail(int kind, int place) {
            errorKind = kind;
            errorPlace = place;
        }

        private void parseBlock(int depth) {
            for (int k = 0; k < MOST_TEXT && errorKind == NO_ERROR && !words.isEnd() && !words.isSign('}'); k++) {
                parseStatement(depth);
            }
        }

        private void parseStatement(int depth) {
            Verb verb = words.verb();
            if (verb == null || size >= statements.length) {
                fail(WRONG_WORD, words.from);
                return;
            }
            if (verb == Verb.LOOP && depth >= MOST_DEPTH) {
                fail(WRONG_NUMBER, words.from);
                return;
            }
            Statement statement = statements[size];
            size++;
            statement.begin(verb, words.from);
            words.advance();
            for (int k = 0; k < verb.arguments.length(); k++) {
                parseArgument(statement, k, verb.arguments.charAt(k));
            }
            if (verb == Verb.LOOP) {
                expect('{');
                parseBlock(depth + 1);
                expect('}');
            } else {
                expect(';');
            }
            statement.next = size;
        }

        private void parseArgument(Statement statement, int index, char argument) {
            if (errorKind != NO_ERROR) {
                return;
            }
            if (words.isEnd() || words.isAnySign()) {
                fail(WRONG_WORD, words.from);
            } else if (argument == 'P') {
                statement.setPiece(words.from, words.to);
                words.advance();
            } else if (reader.canRead(words.text, words.from, words.to, TEN, false, true)
                    && reader.value >= Verb.least(argument) && reader.value <= Verb.most(argument)) {
                statement.setArgument(index, reader.value);
                words.advance();
            } else {
                fail(WRONG_NUMBER, words.from);
            }
        }

        private void expect(char sign) {
            if (errorKind != NO_ERROR) {
                return;
            }
            if (words.isSign(sign)) {
                words.advance();
            } else {
                fail(WRONG_WORD, words.from);
            }
        }

        private void expectEnd() {
            if (errorKind == NO_ERROR && !words.isEnd()) {
                fail(WRONG_WORD, words.from);
            }
        }

        private void carryOutBlock(int from, int to, int depth) {
            if (from < 0 || to > statements.length || depth > MOST_DEPTH) {
                return;
            }
            int k = from;
            while (k < to && errorKind == NO_ERROR) {
                Statement statement = statements[k];
                if (steps >= MOST_STEPS) {
                    fail(TOO_MANY_STEPS, statement.place);
                    return;
                }
                steps++;
                if (statement.verb == Verb.LOOP) {
                    int times = statement.smallArgument(0);
                    for (int done = 0; done < times && errorKind == NO_ERROR; done++) {
                        carryOutBlock(k + 1, statement.next, depth + 1);
                    }
                } else if (!carryOut(statement)) {
                    fail(NOT_DONE, statement.place);
                }
                k = Math.max(statement.next, k + 1);
            }
        }

        /** Returns whether the statement can be done. */
        private boolean carryOut(Statement statement) {
            int first = statement.smallArgument(0);
            int second = statement.smallArgument(1);
            int third = statement.smallArgument(2);
            int from = statement.pieceFrom;
            int to = statement.pieceTo;
            switch (statement.verb) {
                case WIDE: trial.isWide = true; return true;
                case NARROW: trial.isWide = false; return true;
                case SET: trial.keep(first, statement.argument(1)); return true;
                case READ: return trial.takePiece(first, words.text, from, to, second, false);
                case READ_PLAIN: return trial.takePiece(first, words.text, from, to, second, true);
                case WRITE: trial.writePage(first, second, false); return true;
                case WRITE_PLAIN: trial.writePage(first, second, true); return true;
                case BACK: return trial.takePage(first, second, false);
                case BACK_PLAIN: return trial.takePage(first, second, true);
                case SPREAD: trial.clearUpperHalf(first); return true;
                case DIVIDE: return trial.divideInto(first, second, third, false);
                case DIVIDE_PLAIN: return trial.divideInto(first, second, third, true);
                case COMPARE: trial.put(third, trial.compared(first, second, false)); return true;
                case COMPARE_PLAIN: trial.put(third, trial.compared(first, second, true)); return true;
                case COUNT: trial.put(second, trial.ones(first)); return true;
                case LEADING: trial.put(second, trial.zerosInFront(first)); return true;
                case TRAILING: trial.put(second, trial.zerosBehind(first)); return true;
                case ONES: trial.put(second, trial.onesBehind(first)); return true;
                default: trial.put(first, changed(statement.verb, first, second)); return true;
            }
        }

        /** What the first cell becomes by a statement that changes just its W bits. */
        private long changed(Verb verb, int first, int second) {
            switch (verb) {
                case REVERSE: return trial.bitsTurned(first);
                case BYTES: return trial.bytesTurned(first);
                case HIGHEST: return trial.highestBit(first);
                case LOWEST: return trial.lowestBit(first);
                case LEFT: return trial.rotated(first, (int) trial.allBits(second), true);
                case RIGHT: return trial.rotated(first, (int) trial.allBits(second), false);
                case ADD: return trial.combined(first, second, RadixDesk.ADD);
                case SUBTRACT: return trial.combined(first, second, RadixDesk.SUBTRACT);
                case MULTIPLY: return trial.combined(first, second, RadixDesk.MULTIPLY);
                case AND: return trial.combined(first, second, RadixDesk.AND);
                case OR: return trial.combined(first, second, RadixDesk.OR);
                case XOR: return trial.combined(first, second, RadixDesk.XOR);
                default: return trial.signed(first);
            }
        }
    }

    /** Goes through the words of a text, one at a time. */
    private static final class Words {
        private Row text;
        /** The word that is looked at; behind the last word, both are the length of the text. */
        private int from;
        private int to;

        Words() {
            text = new Row(0);
        }

        void begin(Row newText) {
            text = newText;
            from = 0;
            to = 0;
            advance();
        }

        void advance() {
            from = to;
            while (from < text.size() && isGap(text.byteAt(from))) {
                from++;
            }
            to = Math.min(from + 1, text.size());
            if (isAnySign()) {
                return;
            }
            while (to < text.size() && !isGap(text.byteAt(to)) && !isSignByte(text.byteAt(to))) {
                to++;
            }
        }

        boolean isEnd() {
            return from >= text.size();
        }

        boolean isAnySign() {
            return isSignByte(text.byteAt(from));
        }

        boolean isSign(char sign) {
            return text.byteAt(from) == sign;
        }

        /** The verb that stands here; null if none does. */
        Verb verb() {
            for (int k = 0; k < Verb.ALL.length; k++) {
                if (isWord(Verb.ALL[k].word)) {
                    return Verb.ALL[k];
                }
            }
            return null;
        }

        private boolean isWord(String word) {
            if (to - from != word.length()) {
                return false;
            }
            for (int k = 0; k < word.length(); k++) {
                if (text.byteAt(from + k) != word.charAt(k)) {
                    return false;
                }
            }
            return true;
        }

        private static boolean isGap(int one) {
            return one == BLANK || one == LINE_FEED;
        }

        private static boolean isSignByte(int one) {
            return one == ';' || one == '{' || one == '}';
        }
    }

    /** What is taken apart and put together again must be what it was. */
    private static final class Theorem {
        private final Row sheet;
        private final Reader reader;

        Theorem() {
            sheet = new Row(MOST_PAGE);
            reader = new Reader();
        }

        int failures(Desk desk) {
            int failures = 0;
            for (int k = 0; k < CELLS; k++) {
                for (int radix = LEAST_RADIX; radix <= MOST_RADIX; radix++) {
                    failures += isReadBack(desk, k, radix, false) ? 0 : 1;
                    failures += isReadBack(desk, k, radix, true) ? 0 : 1;
                }
                failures += isTurnedBack(desk, k) ? 0 : 1;
                failures += areBytesTurnedBack(desk, k) ? 0 : 1;
                failures += isRotatedBack(desk, k) ? 0 : 1;
                failures += isDivided(desk.plain(k), desk.plain(k + 1 < CELLS ? k + 1 : 0)) ? 0 : 1;
            }
            return failures;
        }

        private boolean isReadBack(Desk desk, int cell, int radix, boolean isPlain) {
            long number = desk.valueOf(cell, isPlain);
            Digits.writeOn(sheet, number, radix, isPlain);
            return reader.canRead(sheet, 0, sheet.size(), radix, isPlain, desk.isWide) && reader.value == number;
        }

        private static boolean isTurnedBack(Desk desk, int cell) {
            long bits = Bits.turned(Bits.turned(desk.allBits(cell), desk.isWide), desk.isWide);
            return Bits.signed(bits, desk.isWide) == desk.signed(cell);
        }

        private static boolean areBytesTurnedBack(Desk desk, int cell) {
            long bits = Bits.bytesTurned(Bits.bytesTurned(desk.allBits(cell), desk.isWide), desk.isWide);
            return Bits.signed(bits, desk.isWide) == desk.signed(cell);
        }

        private static boolean isRotatedBack(Desk desk, int cell) {
            int distance = desk.ones(cell);
            long left = Bits.rotatedLeft(desk.allBits(cell), distance, desk.isWide);
            long bits = Bits.rotatedRight(left, distance, desk.isWide);
            return Bits.signed(bits, desk.isWide) == desk.signed(cell);
        }

        private static boolean isDivided(long first, long second) {
            if (second == 0) {
                return true;
            }
            long quotient = Bits.plainQuotient(first, second);
            long taken = quotient * second;
            return Bits.plainOrder(taken, first) <= 0 && Bits.plainOrder(first - taken, second) < 0;
        }
    }
}
