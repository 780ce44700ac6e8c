/** Terms 4 up to errors of kind 1 and 2: the words of a program, what may stand where, and where an error is told. */
final class GrammarEdges {
    /** The verbs, and a letter for each argument: Cell, Number, Radix, Piece, Times. */
    private static final String[][] VERBS = {
        {"wide", ""}, {"narrow", ""}, {"set", "CN"}, {"read", "CRP"}, {"readplain", "CRP"}, {"write", "CR"},
        {"writeplain", "CR"}, {"back", "CR"}, {"backplain", "CR"}, {"reverse", "C"}, {"bytes", "C"}, {"highest", "C"},
        {"lowest", "C"}, {"spread", "C"}, {"count", "CC"}, {"leading", "CC"}, {"trailing", "CC"}, {"ones", "CC"},
        {"left", "CC"}, {"right", "CC"}, {"add", "CC"}, {"subtract", "CC"}, {"multiply", "CC"}, {"and", "CC"},
        {"or", "CC"}, {"xor", "CC"}, {"divide", "CCC"}, {"divideplain", "CCC"}, {"compare", "CCC"},
        {"compareplain", "CCC"}, {"loop", "T"},
    };

    private GrammarEdges() {
    }

    static void run() {
        texts();
        gaps();
        words();
        numbers();
        readableNumbers();
        pieces();
        grammar();
        loops();
        firstErrors();
        endsTooEarly();
        wrongNumbers();
        deepLoops();
    }

    /** All cells are 1 and the page is "1", so that each statement can be done. */
    private static RadixDesk ones() {
        RadixDesk desk = new RadixDesk();
        desk.fill(1, 0);
        desk.write(0, 10, false);
        return desk;
    }

    private static void error(String text, int kind, int place) {
        RadixDesk desk = ones();
        Check.type(desk, text);
        Check.due("errorKind() of \"" + text + "\"", desk.errorKind(), kind);
        Check.due("errorPlace() of \"" + text + "\"", desk.errorPlace(), place);
        Check.due("run() of \"" + text + "\" throws", Check.thrownBy(desk::run),
            kind == 0 ? "nothing" : IllegalStateException.class);
    }

    private static void right(String text) {
        error(text, 0, RadixDesk.NONE);
    }

    private static void texts() {
        Check.sentence("Terms 4", "The text (bytes from 1 to 255, at most 300) can be a program.");
        right("");
        right("wide;".repeat(60));
        right(" ".repeat(300));
        right(" ".repeat(295) + "wide;");
        error("wide;".repeat(59) + "wide ", 1, 300);
        error("wide;".repeat(59) + ";wide", 1, 295);
        for (int one = 1; one < 256; one++) {
            char sign = (char) one;
            if (";{} \n".indexOf(sign) < 0) {
                error("wide;" + sign + ";", 1, 5);
                error("wide" + sign + ";", 1, 0);
                error("set 0 " + sign + ";", sign >= '0' && sign <= '9' ? 0 : 2, sign >= '0' && sign <= '9' ? -1 : 6);
            }
        }
    }

    private static void gaps() {
        Check.sentence("Terms 4", "Blanks (32) and line feeds (10) separate words.");
        for (String gap : new String[] {" ", "\n", "  ", "\n\n", " \n ", " ".repeat(50)}) {
            right("set" + gap + "0" + gap + "1" + gap + ";" + gap + "wide;" + gap);
            right(gap);
            right(gap + "wide" + gap + ";");
            right("loop" + gap + "2" + gap + "{" + gap + "}" + gap);
        }
        for (char sign : new char[] {1, 9, 11, 12, 13, 31, 33, 127, 128, 133, 160, 255, ',', '.', '_', '-'}) {
            error("set" + sign + "0 1;", 1, 0);
            error("set 0" + sign + "1 1;", 2, 4);
            error("set 0 1" + sign + ";", 2, 6);
            error(sign + " wide;", 1, 0);
            error("wide; " + sign, 1, 6);
        }
    }

    private static void words() {
        Check.sentence("Terms 4", "A word is a row of other bytes, as long as possible,");
        error("widewide;", 1, 0);
        error("wide0;", 1, 0);
        error("set0 1;", 1, 0);
        error("set 01;", 1, 6);
        right("set 01 02;");
        error("readplai 0 10 1;", 1, 0);
        error("readplainx 0 10 1;", 1, 0);
        error("wid;", 1, 0);
        error("ide;", 1, 0);
        error("WIDE;", 1, 0);
        error("Wide;", 1, 0);
        right("set 0 1;set 7 " + "0".repeat(280) + "5;");
        Check.sentence("Terms 4", "but each of the signs ; { } is a word of its own, wherever it stands.");
        right("wide;narrow;loop 2{wide;}loop 0{}wide;");
        right("wide ; narrow ; loop 2 { wide ; } loop 0 { } wide ;");
        error("wi;de;", 1, 0);
        error("wide;;", 1, 5);
        error("wide{;", 1, 4);
        error("wide};", 1, 4);
        error("set{0 1;", 1, 3);
        error("set 0{1;", 1, 5);
        error("set 0 1}", 1, 7);
        error("read 0 36 a;b;", 1, 12);
        error("read 0 36 a{b;", 1, 11);
        error("read 0 36 a}b;", 1, 11);
        error("loop 2;", 1, 6);
        error("loop{2}", 1, 4);
        right("loop 1{loop 1{}}");
    }

    private static void number(char kind, String word, boolean isOne) {
        String front = kind == 'C' ? "reverse " : kind == 'T' ? "loop " : kind == 'R' ? "write 0 " : "set 0 ";
        String text = front + word + (kind == 'T' ? "{}" : ";");
        error(text, isOne ? 0 : 2, isOne ? RadixDesk.NONE : front.length());
    }

    private static void numbers() {
        Check.sentence("Terms 4", "A program follows these rules; CELL is a number from 0 to 7,");
        for (long number = -3; number <= 12; number++) {
            number('C', String.valueOf(number), number >= 0 && number <= 7);
        }
        Check.sentence("Terms 4", "TIMES one from 0 to 50,");
        for (long number = -3; number <= 60; number++) {
            number('T', String.valueOf(number), number >= 0 && number <= 50);
        }
        Check.sentence("Terms 4", "RADIX one from 2 to 36,");
        for (long number = -3; number <= 40; number++) {
            number('R', String.valueOf(number), number >= 2 && number <= 36);
        }
        for (char kind : new char[] {'C', 'T', 'R'}) {
            for (String word : new String[] {"4294967296", "4294967298", "-4294967294", "9223372036854775807",
                    "-9223372036854775808", "9223372036854775808", "18446744073709551616", "18446744073709551618"}) {
                number(kind, word, false);
            }
        }
        Check.sentence("Terms 4", "NUMBER one from -2^63 to 2^63 - 1,");
        for (String word : new String[] {"0", "-1", "1", "2147483648", "-2147483649", "4294967296",
                "9223372036854775806", "9223372036854775807", "-9223372036854775807", "-9223372036854775808"}) {
            number('N', word, true);
        }
        for (String word : new String[] {"9223372036854775808", "-9223372036854775809", "9223372036854775817",
                "18446744073709551615", "18446744073709551616", "-18446744073709551616", "92233720368547758070"}) {
            number('N', word, false);
        }
    }

    private static void readableNumbers() {
        Check.sentence("Terms 4", "each one a word that a wide desk could read in radix 10;");
        for (char kind : new char[] {'C', 'T', 'R', 'N'}) {
            for (String word : new String[] {"3", "+3", "03", "+03", "0000000003", "+" + "0".repeat(200) + "3"}) {
                number(kind, word, true);
            }
            for (String word : new String[] {"x", "a", "3a", "3.", "0x3", "+", "-", "++3", "+-3", "-+3", "3+", "3-", "\"3\"",
                    "'3'", "3,", "three", "\u00b3", "loop", "set", "wide"}) {
                number(kind, word, false);
            }
            boolean mayBeZero = kind != 'R';
            for (String word : new String[] {"0", "-0", "+0", "00", "-000"}) {
                number(kind, word, mayBeZero);
            }
            number(kind, "-3", kind == 'N');
        }
        right("narrow;set 0 9223372036854775807;narrow;set 1 -9223372036854775808;");
    }

    private static void pieces() {
        Check.sentence("Terms 4", "PIECE is any word but the three signs.");
        for (String verb : new String[] {"read", "readplain"}) {
            String front = verb + " 0 36 ";
            for (String piece : new String[] {"1", "loop", "set", "wide", "read", "+1", "z", "ZZ", "007"}) {
                right(front + piece + ";");
            }
            for (String piece : new String[] {"-", "+", "!", "\"", "1.5", "\u00e9", "1_0", "zzzzzzzzzzzzzzz"}) {
                error(front + piece + ";", 3, 0);
            }
            for (char sign : new char[] {';', '{', '}'}) {
                error(front + sign + ";", 1, front.length());
                error(front + "1" + (sign == ';' ? ";;" : sign + ";"), 1, front.length() + (sign == ';' ? 2 : 1));
            }
            error(front + "1 1;", 1, front.length() + 2);
        }
    }

    private static String argument(char kind) {
        return kind == 'R' ? "10" : "1";
    }

    /** The verb with so many of its arguments. */
    private static String front(String[] verb, int count) {
        StringBuilder all = new StringBuilder(verb[0]);
        for (int k = 0; k < count; k++) {
            all.append(' ').append(argument(verb[1].charAt(k)));
        }
        return all.toString();
    }

    private static String[] verb(String word) {
        for (String[] verb : VERBS) {
            if (verb[0].equals(word)) {
                return verb;
            }
        }
        throw new IllegalArgumentException(word);
    }

    /** The statements with just these arguments, and none with one less, one more, or a sign in place of one. */
    private static void statements(String rule, String arguments, String... words) {
        Check.sentence("Terms 4", rule);
        for (String word : words) {
            String[] verb = verb(word);
            Check.due("arguments of " + word, verb[1], arguments);
            int count = arguments.length();
            String whole = front(verb, count);
            String end = word.equals("loop") ? "{}" : ";";
            right(whole + end);
            right(whole + " " + end + "wide;");
            right("loop 1{" + whole + end + "}");
            error(whole + " 1" + end, 1, whole.length() + 1);
            error(whole + " wide" + end, 1, whole.length() + 1);
            error(whole, 1, whole.length());
            error(whole + "}", 1, whole.length());
            error(whole + (word.equals("loop") ? ";" : "{"), 1, whole.length());
            for (int k = 0; k < count; k++) {
                String fewer = front(verb, k);
                error(fewer + end, 1, fewer.length());
                error(fewer + " }" + end, 1, fewer.length() + 1);
                error(fewer + " {" + end, 1, fewer.length() + 1);
                error(fewer + " ;" + end, 1, fewer.length() + 1);
                error(fewer + " ", 1, fewer.length() + 1);
                edges(verb, k, end);
            }
            error(word + "x" + whole.substring(word.length()) + end, 1, 0);
            error(word.substring(0, word.length() - 1) + whole.substring(word.length()) + end, 1, 0);
            error("x " + whole + end, 1, 0);
        }
    }

    /** What is the last to be taken as an argument, and the first not to be. */
    private static void edges(String[] verb, int index, String end) {
        char kind = verb[1].charAt(index);
        StringBuilder behind = new StringBuilder();
        for (int k = index + 1; k < verb[1].length(); k++) {
            behind.append(' ').append(argument(verb[1].charAt(k)));
        }
        String front = front(verb, index) + " ";
        String[] taken = kind == 'C' ? new String[] {"0", "7"} : kind == 'R' ? new String[] {"2", "36"}
            : kind == 'T' ? new String[] {"0", "50"} : kind == 'N' ? new String[] {"-9223372036854775808",
                "9223372036854775807"} : new String[] {"1", "+1"};
        String[] not = kind == 'C' ? new String[] {"-1", "8", "x"} : kind == 'R' ? new String[] {"1", "37", "x"}
            : kind == 'T' ? new String[] {"-1", "51", "x"} : kind == 'N' ? new String[] {"-9223372036854775809",
                "9223372036854775808", "x"} : new String[0];
        for (String word : taken) {
            right(front + word + behind + end);
        }
        for (String word : not) {
            error(front + word + behind + end, 2, front.length());
            error(front + word, 2, front.length());
            error(front + word + ";", 2, front.length());
            error(front + word + " }", 2, front.length());
        }
    }

    private static void grammar() {
        Check.sentence("Terms 4", "program = { statement }");
        right("");
        right("wide;");
        right("wide;wide;loop 1{}narrow;loop 2{}");
        error("wide;}", 1, 5);
        error("{wide;}", 1, 0);
        error("1;", 1, 0);
        error("wide;1", 1, 5);
        statements("statement = ( \"wide\" | \"narrow\" ) \";\"", "", "wide", "narrow");
        statements("| \"set\" CELL NUMBER \";\"", "CN", "set");
        statements("| ( \"read\" | \"readplain\" ) CELL RADIX PIECE \";\"", "CRP", "read", "readplain");
        statements("| ( \"write\" | \"writeplain\" ) CELL RADIX \";\"", "CR", "write", "writeplain");
        statements("| ( \"back\" | \"backplain\" ) CELL RADIX \";\"", "CR", "back", "backplain");
        statements("| ( \"reverse\" | \"bytes\" | \"highest\" | \"lowest\" | \"spread\" ) CELL \";\"", "C",
            "reverse", "bytes", "highest", "lowest", "spread");
        statements("| ( \"count\" | \"leading\" | \"trailing\" | \"ones\" | \"left\" | \"right\" ) CELL CELL \";\"", "CC",
            "count", "leading", "trailing", "ones", "left", "right");
        statements("| ( \"add\" | \"subtract\" | \"multiply\" | \"and\" | \"or\" | \"xor\" ) CELL CELL \";\"", "CC",
            "add", "subtract", "multiply", "and", "or", "xor");
        statements("| ( \"divide\" | \"divideplain\" | \"compare\" | \"compareplain\" ) CELL CELL CELL \";\"", "CCC",
            "divide", "divideplain", "compare", "compareplain");
        statements("| \"loop\" TIMES \"{\" { statement } \"}\"", "T", "loop");
    }

    private static void loops() {
        right("loop 1{}");
        right("loop 1{wide;}");
        right("loop 1{wide;wide;loop 1{}}wide;");
        error("loop 1{;}", 1, 7);
        error("loop 1{1}", 1, 7);
        error("loop 1{{}}", 1, 7);
        error("loop 1{}}", 1, 8);
        error("loop 1{};", 1, 8);
        error("loop 1{}{}", 1, 8);
        error("loop 1{wide}", 1, 11);
        error("loop 1{loop 1{}", 1, 15);
        error("loop 1}", 1, 6);
        error("loop 1 wide;", 1, 7);
    }

    private static void firstErrors() {
        Check.sentence("Terms 4", "An error has a kind and a place (bytes of the text are numbered from 0).");
        error("x", 1, 0);
        error(" x", 1, 1);
        error("\n\n  x y", 1, 4);
        error(" ".repeat(299) + "x", 1, 299);
        error("set x 1;", 2, 4);
        Check.sentence("Terms 4", "The text is read from the front, and the first error is told:");
        error("x;set 9 1;", 1, 0);
        error("set 9 1;x;", 2, 4);
        error("set 9 x;", 2, 4);
        error("set 1 x;set 9", 2, 6);
        error("set 9;", 2, 4);
        error("set 9", 2, 4);
        error("divide 0 0 8;x;", 2, 11);
        error("wide;x;", 1, 5);
        error("divide 0 0 0;x;", 1, 13);
        error("read 0 10 x;loop 51{}", 2, 17);
        error("loop 50{loop 50{wide;}}x", 1, 23);
        error("back 0 1;x", 2, 7);
        Check.sentence("Terms 4", "kind 1, a word that cannot stand there, at its first byte,");
        error("unknown;", 1, 0);
        error("  unknown;", 1, 2);
        error("wide; ;", 1, 6);
        error("wide; }", 1, 6);
        error("wide; {", 1, 6);
        error("wide  narrow;", 1, 6);
        error("set 0 1  2;", 1, 9);
        error("set  ;", 1, 5);
        error("set 0  {", 1, 7);
        error("set 0  }", 1, 7);
        error("loop 1  wide;", 1, 8);
        error("loop 1 {  x }", 1, 10);
        error("loop 1 { } }", 1, 11);
        error("loop  {", 1, 6);
    }

    private static void endsTooEarly() {
        Check.sentence("Terms 4", "or, if the text ends too early, at its length;");
        for (String[] verb : VERBS) {
            for (int count = 0; count <= verb[1].length(); count++) {
                String text = front(verb, count);
                error(text, 1, text.length());
                error(text + " ", 1, text.length() + 1);
                error(text + "\n  \n", 1, text.length() + 4);
                error("wide; " + text, 1, text.length() + 6);
            }
        }
        error("loop 1{", 1, 7);
        error("loop 1{  ", 1, 9);
        error("loop 1{wide;", 1, 12);
        error("loop 1{wide", 1, 11);
        error("loop 1{loop 1{}", 1, 15);
        error("loop 1{loop 1{", 1, 14);
        error(" ".repeat(296) + "wide", 1, 300);
        error("wide" + " ".repeat(296), 1, 300);
        error("wid", 1, 0);
        error("wide;wid", 1, 5);
    }

    private static void wrongNumbers() {
        Check.sentence("Terms 4", "kind 2, at its first byte, a word (none of the three signs) that stands where a CELL,"
            + " TIMES, RADIX or NUMBER must stand and is none,");
        error("set  8 1;", 2, 5);
        error("set 0  x;", 2, 7);
        error("write 0  1;", 2, 9);
        error("loop  51{}", 2, 6);
        error("loop 51 {}", 2, 5);
        error("loop x", 2, 5);
        error("set wide;", 2, 4);
        error("set set 0 1;", 2, 4);
        error("loop loop 1{}{}", 2, 5);
        error("read 0 x", 2, 7);
        error("reverse 1000;", 2, 8);
        error("set ;8 1;", 1, 4);
        error("set {8 1;", 1, 4);
        error("set }8 1;", 1, 4);
        error("loop ;", 1, 5);
        error("write 0 ;", 1, 8);
        error("set 0 };", 1, 6);
    }

    private static void deepLoops() {
        Check.sentence("Terms 4", "or a \"loop\" that stands in the blocks of four others.");
        right("loop 1{loop 1{loop 1{loop 1{}}}}");
        right("loop 1{loop 1{loop 1{loop 1{wide;}loop 1{}}loop 1{loop 1{}}}}loop 1{loop 1{loop 1{loop 1{}}}}");
        error("loop 1{loop 1{loop 1{loop 1{loop 1{}}}}}", 2, 28);
        error("loop 1{loop 1{loop 1{loop 1{wide; loop 1{}}}}}", 2, 34);
        error("loop 0{loop 0{loop 0{loop 0{loop 0{}}}}}", 2, 28);
        error("loop 1{loop 1{loop 1{loop 1{loop 51{}}}}}", 2, 28);
        error("loop 1{loop 1{loop 1{loop 1{loop", 2, 28);
        error("loop 1{loop 1{loop 1{loop 1{loop;", 2, 28);
        error("loop 1{loop 1{loop 1{loop 1{}loop 1{loop 1{}}}}}", 2, 36);
        error("loop 1{loop 1{loop 1{loop 1{}}}loop 1{loop 1{loop 1{loop 1{}}}}}", 2, 52);
        error("loop 1{loop 1{loop 1{loop 51{loop 1{", 2, 26);
        error("loop 1{loop 1{loop 1{loop 1{x loop 1{", 1, 28);
        error("loop 1{".repeat(42), 2, 28);
        RadixDesk desk = Check.deskWith("loop 1{loop 1{loop 1{loop 1{read 0 36 loop;}}}}");
        Check.due("run() with a piece \"loop\" in four blocks", desk.run(), 5);
        Check.due("its number", desk.number(0), 1011769);
    }
}
