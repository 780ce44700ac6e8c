import java.util.function.Consumer;

/** Terms 4 from what statements do on, and promises 40 to 42: each statement beside its call, and errors 3 and 4. */
final class RunEdges {
    private static final Class<?> HAS_ERROR = IllegalStateException.class;
    private static final long[] NUMBERS = {
        0, 1, -1, 31, 0x7fff_ffffL, 0x8000_0000L, 0xffff_ffffL, 0x1_0000_0000L, -0x1_0000_0000L, 0x5a5a_5a5a_0000_0001L,
        Long.MAX_VALUE, Long.MIN_VALUE, 0x1234_5678_9abc_def0L,
    };
    /** 491 steps: 49 rounds of ten, and the loop itself. */
    private static final String STEPS_491 = "loop 49{loop 9{wide;}}";

    private RunEdges() {
    }

    static void run() {
        widths();
        pages();
        cells();
        cellsIntoCells();
        turns();
        combinations();
        quotients();
        loops();
        constants();
        copies();
        cannotBeRead();
        cannotBeDivided();
        tooManySteps();
        stepsOfLoops();
        innermost();
        kinds();
        places();
        runs();
    }

    private static RadixDesk with(String text, boolean isWide, long... bits) {
        RadixDesk desk = Edge.deskOf(isWide, bits);
        Check.type(desk, text);
        return desk;
    }

    /** The program must leave the desk as the calls do, on a narrow desk and on a wide one. */
    private static void same(String text, Consumer<RadixDesk> calls, long... bits) {
        for (boolean isWide : Edge.BOTH) {
            String what = "run() of \"" + text + "\" with " + java.util.Arrays.toString(bits) + Edge.width(isWide);
            RadixDesk desk = with(text, isWide, bits);
            RadixDesk other = with(text, isWide, bits);
            desk.write(1, 16, false);
            other.write(1, 16, false);
            Edge.taken(what, desk, RadixDesk::run);
            calls.accept(other);
            Check.due("the desk after " + what, Check.wholeState(desk), Check.wholeState(other));
        }
    }

    private static void error(RadixDesk desk, String what, int kind, int place) {
        Check.due("errorPlace() of " + what, desk.errorPlace(), place);
        Check.due("errorKind() of " + what, desk.errorKind(), kind);
        Check.due("run() of " + what + " throws", Check.thrownBy(desk::run), kind == 0 ? "nothing" : HAS_ERROR);
    }

    private static void error(String text, int kind, int place) {
        error(Check.deskWith(text), "\"" + text + "\"", kind, place);
    }

    private static void steps(String text, int steps) {
        RadixDesk desk = Check.deskWith(text);
        Check.due("errorKind() of \"" + text + "\"", desk.errorKind(), 0);
        Check.due("errorPlace() of \"" + text + "\"", desk.errorPlace(), RadixDesk.NONE);
        Check.due("run() of \"" + text + "\"", desk.run(), steps);
    }

    private static void widths() {
        Check.sentence("Terms 4", "\"wide\" and \"narrow\" do what setWide() does.");
        for (long bits : NUMBERS) {
            same("wide;", desk -> desk.setWide(true), bits);
            same("narrow;", desk -> desk.setWide(false), bits);
            same("wide;narrow;", desk -> desk.setWide(false), bits);
        }
        Check.sentence("Terms 4", "\"set\" does what set() does.");
        for (long bits : NUMBERS) {
            same("set 0 " + bits + ";", desk -> desk.set(0, bits), 5);
            same("set 7 " + bits + ";", desk -> desk.set(7, bits), 5);
        }
    }

    private static void pages() {
        Check.sentence("Terms 4", "\"read\", \"write\" and \"back\" do what read() (of the whole piece), write() and"
            + " readPage() do, with the sign;");
        for (long bits : NUMBERS) {
            same("write 7 2;", desk -> desk.write(7, 2, false), 0, 0, 0, 0, 0, 0, 0, bits);
            same("write 0 36;", desk -> desk.write(0, 36, false), bits);
            same("write 0 36;back 7 36;", desk -> {
                desk.write(0, 36, false);
                desk.readPage(7, 36, false);
            }, bits);
        }
        same("read 7 10 -2147483648;", desk -> desk.read(7, 10, 21, 10, false));
        same("read 0 10 2147483647;", desk -> desk.read(0, 10, 20, 10, false), -1L << 32);
        same("read 0 16 +7fFF;", desk -> desk.read(0, 10, 15, 16, false), -1L << 32);
        same("back 0 16;", desk -> desk.readPage(0, 16, false), 5, 0x7fff_ffffL);
        same("back 0 16;", desk -> desk.readPage(0, 16, false), -1L << 32, 26);
        same("back 0 16;", desk -> desk.readPage(0, 16, false), 5, Integer.MIN_VALUE);
        Check.sentence("Terms 4", "\"readplain\", \"writeplain\" and \"backplain\" do it plain.");
        for (long bits : NUMBERS) {
            same("writeplain 7 2;", desk -> desk.write(7, 2, true), 0, 0, 0, 0, 0, 0, 0, bits);
            same("writeplain 0 36;backplain 7 36;", desk -> {
                desk.write(0, 36, true);
                desk.readPage(7, 36, true);
            }, bits);
        }
        same("readplain 7 10 4294967295;", desk -> desk.read(7, 15, 25, 10, true));
        same("readplain 0 10 +2147483648;", desk -> desk.read(0, 15, 26, 10, true));
        same("backplain 0 16;", desk -> desk.readPage(0, 16, true), 5, 0x7fff_ffffL);
    }

    private static void cells() {
        Check.sentence("Terms 4", "\"reverse\", \"bytes\", \"highest\", \"lowest\" and \"spread\" do what reverse(),"
            + " reverseBytes(), highest(), lowest() and spread() do.");
        for (long bits : NUMBERS) {
            same("reverse 0;", desk -> desk.reverse(0), bits, 9);
            same("bytes 0;", desk -> desk.reverseBytes(0), bits, 9);
            same("highest 0;", desk -> desk.highest(0), bits, 9);
            same("lowest 0;", desk -> desk.lowest(0), bits, 9);
            same("spread 0;", desk -> desk.spread(0), bits, 9);
            same("reverse 1;bytes 1;highest 2;lowest 3;spread 4;", desk -> {
                desk.reverse(1);
                desk.reverseBytes(1);
                desk.highest(2);
                desk.lowest(3);
                desk.spread(4);
            }, 5, bits, bits, bits, bits, bits, 6);
        }
    }

    private static void cellsIntoCells() {
        Check.sentence("Terms 4", "\"count\", \"leading\", \"trailing\" and \"ones\" put what count(), leading(),"
            + " trailing() and trailingOnes() tell about the first cell into the second one.");
        for (long bits : NUMBERS) {
            for (int into : new int[] {0, 1, 7}) {
                same("count 0 " + into + ";", desk -> desk.set(into, desk.count(0)), bits, -1L << 32);
                same("leading 0 " + into + ";", desk -> desk.set(into, desk.leading(0)), bits, -1L << 32);
                same("trailing 0 " + into + ";", desk -> desk.set(into, desk.trailing(0)), bits, -1L << 32);
                same("ones 0 " + into + ";", desk -> desk.set(into, desk.trailingOnes(0)), bits, -1L << 32);
            }
        }
    }

    private static void turns() {
        Check.sentence("Terms 4", "\"left\" and \"right\" do what rotate() does with the first cell, by as many places as"
            + " the number of the second cell on a narrow desk.");
        long[] places = {
            0, 1, -1, 31, 32, 33, 63, 64, -32, -64, Integer.MAX_VALUE, Integer.MIN_VALUE, 0x1_0000_0001L, 0xffff_ffffL,
            -0x1_0000_0000L, 0x8000_0001L, Long.MIN_VALUE + 5, Long.MAX_VALUE,
        };
        for (long bits : NUMBERS) {
            for (long distance : places) {
                same("left 0 1;", desk -> desk.rotate(0, (int) distance, true), bits, distance);
                same("right 0 1;", desk -> desk.rotate(0, (int) distance, false), bits, distance);
            }
            same("left 0 0;", desk -> desk.rotate(0, (int) bits, true), bits);
            same("right 0 0;", desk -> desk.rotate(0, (int) bits, false), bits);
        }
    }

    private static void combinations() {
        Check.sentence("Terms 4", "\"add\" to \"xor\" do what combine() does.");
        String[] words = {"add", "subtract", "multiply", "and", "or", "xor"};
        for (int how = 0; how < words.length; how++) {
            int by = how;
            for (long bits : NUMBERS) {
                for (long other : NUMBERS) {
                    same(words[how] + " 0 1;", desk -> desk.combine(0, 1, by), bits, other);
                }
                same(words[how] + " 7 7;", desk -> desk.combine(7, 7, by), 1, 2, 3, 4, 5, 6, 7, bits);
            }
        }
    }

    private static void quotients() {
        Check.sentence("Terms 4", "\"divide\" and \"divideplain\" do what divide() does;");
        for (long bits : NUMBERS) {
            for (long by : new long[] {1, -1, 3, 0x8000_0000L, 0x7fff_ffffL, 0x1_0000_0003L}) {
                for (int rest = 0; rest < 3; rest++) {
                    int into = rest;
                    same("divide 0 1 " + rest + ";", desk -> desk.divide(0, 1, into, false), bits, by);
                    same("divideplain 0 1 " + rest + ";", desk -> desk.divide(0, 1, into, true), bits, by);
                }
            }
        }
        same("divide 7 7 7;", desk -> desk.divide(7, 7, 7, false), 1, 2, 3, 4, 5, 6, 7, 8);
        Check.sentence("Terms 4", "\"compare\" and \"compareplain\" put what compare() tells about the first two cells"
            + " into the third one.");
        for (long bits : NUMBERS) {
            for (long other : NUMBERS) {
                for (int third = 0; third < 3; third++) {
                    int into = third;
                    same("compare 0 1 " + third + ";", desk -> desk.set(into, desk.compare(0, 1, false)), bits, other, 7);
                    same("compareplain 0 1 " + third + ";", desk -> desk.set(into, desk.compare(0, 1, true)), bits, other,
                        7);
                }
            }
        }
    }

    private static void loops() {
        Check.sentence("Terms 4", "\"loop\" carries out what is in its block as many times as told.");
        for (int times = 0; times <= 50; times++) {
            RadixDesk desk = with("set 1 1;loop " + times + "{add 0 1;}", true);
            Check.due("steps of a loop of " + times, desk.run(), 2 + times);
            Check.due("times of a loop of " + times, desk.number(0), times);
        }
        RadixDesk inside = with("loop 3{loop 4{add 0 1;}add 2 1;}add 3 1;", false, 0, 1);
        Check.due("steps of a loop in a loop", inside.run(), 1 + 3 * 6 + 1);
        Check.due("times inside", inside.number(0), 12);
        Check.due("times outside", inside.number(2), 3);
        Check.due("once behind", inside.number(3), 1);
        RadixDesk four = with("loop 2{loop 3{loop 4{loop 5{add 0 1;}}}}", false, 0, 1);
        Check.due("steps of four loops", four.run(), 1 + 2 * (1 + 3 * (1 + 4 * (1 + 5))));
        Check.due("times in four loops", four.number(0), 120);
        RadixDesk none = with("loop 0{loop 50{add 0 1;}divide 0 7 7;back 0 2;}add 2 1;", false, 0, 1);
        Check.due("steps of no round", none.run(), 2);
        Check.due("a block that is left out", none.number(0), 0);
        Check.due("what stands behind it", none.number(2), 1);
        RadixDesk two = with("loop 2{add 0 1;}loop 3{add 0 1;}loop 0{add 0 1;}loop 1{}", false, 0, 1);
        Check.due("steps of loops one behind the other", two.run(), 9);
        Check.due("times of them", two.number(0), 5);
    }

    private static void constants() {
        Check.sentence("Terms 4", "The constants: `NONE = -1`: There is none.");
        Check.due("NONE", RadixDesk.NONE, -1);
        Check.due("errorPlace() without an error", new RadixDesk().errorPlace(), -1);
        Check.sentence("Terms 4", "`HEX = 0, OCTAL = 1, BINARY = 2`: Kinds of writing.");
        Check.due("HEX", RadixDesk.HEX, 0);
        Check.due("OCTAL", RadixDesk.OCTAL, 1);
        Check.due("BINARY", RadixDesk.BINARY, 2);
        Check.due("writeBits() by HEX", Edge.deskOf(false, 255).writeBits(0, RadixDesk.HEX), 2);
        Check.due("writeBits() by OCTAL", Edge.deskOf(false, 255).writeBits(0, RadixDesk.OCTAL), 3);
        Check.due("writeBits() by BINARY", Edge.deskOf(false, 255).writeBits(0, RadixDesk.BINARY), 8);
        Check.sentence("Terms 4", "`ADD = 0, SUBTRACT = 1, MULTIPLY = 2, AND = 3, OR = 4, XOR = 5`: Ways to combine two"
            + " numbers.");
        int[] ways = {RadixDesk.ADD, RadixDesk.SUBTRACT, RadixDesk.MULTIPLY, RadixDesk.AND, RadixDesk.OR, RadixDesk.XOR};
        int[] due = {18, 6, 72, 4, 14, 10};
        for (int how = 0; how < ways.length; how++) {
            Check.due("way " + how, ways[how], how);
            Check.due("12 and 6 by " + how, Edge.deskOf(false, 12, 6).combine(0, 1, how), due[how]);
        }
    }

    private static void unchanged(String what, boolean isWide, String text) {
        Edge.changesNothing("errorKind() of " + what, () -> page(text, isWide), RadixDesk::errorKind);
        Edge.changesNothing("errorPlace() of " + what, () -> page(text, isWide), RadixDesk::errorPlace);
    }

    private static RadixDesk page(String text, boolean isWide) {
        RadixDesk desk = with(text, isWide, 5L << 32, -1, 2, 3, 4, 5, 6, 7);
        desk.write(1, 10, true);
        return desk;
    }

    private static void copies() {
        Check.sentence("Terms 4", "If there is no such error, the program is carried out on copies of the cells, the page"
            + " and the width, and the first error is told:");
        String done = "wide;set 0 1;write 0 2;add 2 3;spread 1;narrow;";
        for (boolean isWide : Edge.BOTH) {
            unchanged("a right program", isWide, done);
            for (String error : new String[] {"fill", "set 8 0;", "xor 5 5;divide 0 5 5;", "read 0 10 x;",
                    "set 0 9;write 0 10;back 0 9;", "loop 50{loop 50{set 6 0;}}"}) {
                unchanged("a wrong program", isWide, done + "wide;" + error);
                unchanged("a program with an error behind a loop", isWide, "loop 2{" + done + "}" + error);
            }
            unchanged("too many steps", isWide, STEPS_491 + done + done);
        }
        RadixDesk desk = with("subtract 0 1;divide 2 0 3;", false, 2, 1, 9);
        Check.due("errorKind() the first time", desk.errorKind(), 0);
        Check.due("errorKind() again", desk.errorKind(), 0);
        Check.due("errorKind() again", desk.errorKind(), 0);
        Check.due("run()", desk.run(), 2);
        Check.due("errorKind() then", desk.errorKind(), 3);
        Check.due("errorPlace() then", desk.errorPlace(), 13);
        Check.due("number(0) then", desk.number(0), 1);
        RadixDesk wide = with("read 0 10 2147483648;", false);
        Check.due("errorKind() if narrow", wide.errorKind(), 3);
        wide.setWide(true);
        Check.due("errorKind() if wide", wide.errorKind(), 0);
        error("divide 0 0 0;read 0 10 x;", 3, 0);
        error("wide;read 0 10 x;divide 0 0 0;", 3, 5);
    }

    private static void cannotBeRead() {
        Check.sentence("Terms 4", "kind 3, a statement that cannot be done, because its piece or the page cannot be"
            + " read,");
        error("read 0 10 2147483647;", 0, -1);
        error("read 0 10 2147483648;", 3, 0);
        error("read 0 10 -2147483648;", 0, -1);
        error("read 0 10 -2147483649;", 3, 0);
        error("wide;read 0 10 9223372036854775807;", 0, -1);
        error("wide;read 0 10 9223372036854775808;", 3, 5);
        error("wide;read 0 10 -9223372036854775808;", 0, -1);
        error("wide;read 0 10 -9223372036854775809;", 3, 5);
        error("readplain 0 10 4294967295;", 0, -1);
        error("readplain 0 10 4294967296;", 3, 0);
        error("wide;readplain 0 10 18446744073709551615;", 0, -1);
        error("wide;readplain 0 10 18446744073709551616;", 3, 5);
        error("wide;readplain 0 10 4294967296;narrow;readplain 0 10 4294967296;", 3, 38);
        error("readplain 0 10 -1;", 3, 0);
        error("readplain 0 10 -0;", 3, 0);
        error("read 0 10 -0;", 0, -1);
        error("read 0 10 +;", 3, 0);
        error("read 0 2 2;", 3, 0);
        error("read 0 35 z;", 3, 0);
        error("read 0 36 z;", 0, -1);
        error("read 0 10 1x;", 3, 0);
        error("back 0 10;", 3, 0);
        error("backplain 0 10;", 3, 0);
        error("write 0 10;back 0 10;", 0, -1);
        error("set 0 -1;write 0 10;back 0 10;", 0, -1);
        error("set 0 -1;write 0 10;backplain 0 10;", 3, 20);
        error("set 0 -1;writeplain 0 10;backplain 0 10;", 0, -1);
        error("set 0 -1;writeplain 0 10;back 0 10;", 3, 25);
        error("set 0 9;write 0 10;back 0 10;back 0 9;", 3, 29);
        error("set 0 35;write 0 36;back 0 36;back 0 35;", 3, 30);
        error("wide;set 0 4294967296;write 0 10;narrow;back 0 10;", 3, 40);
        RadixDesk desk = Edge.deskOf(false, 77);
        desk.write(0, 10, false);
        Check.type(desk, "back 1 8;wide;");
        error(desk, "the page \"77\" in radix 8", 0, -1);
        Check.due("its number", desk.number(1), 63);
        desk.clearText();
        Check.type(desk, " back 1 7;");
        error(desk, "the page \"77\" in radix 7", 3, 1);
    }

    private static void cannotBeDivided() {
        Check.sentence("Terms 4", "or because the number by which it divides is 0;");
        error("divide 0 1 2;", 3, 0);
        error("divideplain 0 1 2;", 3, 0);
        error("divide 0 0 0;", 3, 0);
        error("set 1 1;divide 0 1 2;", 0, -1);
        error("set 1 -1;divideplain 0 1 2;", 0, -1);
        error("set 1 4294967296;divide 0 1 2;", 3, 17);
        error("set 1 4294967296;divideplain 0 1 2;", 3, 17);
        error("wide;set 1 4294967296;divide 0 1 2;", 0, -1);
        error("wide;set 1 4294967296;divideplain 0 1 2;", 0, -1);
        error("set 1 2;loop 2{divide 0 1 1;}", 3, 15);
        error("set 0 1;set 1 2;loop 2{divide 0 1 1;}", 0, -1);
        error("compare 0 1 2;compareplain 0 1 2;", 0, -1);
    }

    private static void tooManySteps() {
        Check.sentence("Terms 4", "kind 4, a statement that would be the 501st step (whether it can be done or not).");
        String nine = "wide;".repeat(9);
        int at = STEPS_491.length() + nine.length();
        steps(STEPS_491 + nine.substring(5), 499);
        steps(STEPS_491 + nine, 500);
        error(STEPS_491 + nine + "wide;", 4, at);
        error(STEPS_491 + nine + " wide;", 4, at + 1);
        error(STEPS_491 + nine + "narrow;wide;", 4, at);
        error(STEPS_491 + nine + "loop 0{}", 4, at);
        error(STEPS_491 + nine + "divide 0 0 0;", 4, at);
        error(STEPS_491 + nine + "read 0 10 x;", 4, at);
        error(STEPS_491 + nine + "back 0 10;", 4, at);
        error(STEPS_491 + nine.substring(5) + "divide 0 0 0;", 3, at - 5);
        error(STEPS_491 + nine.substring(5) + "read 0 10 x;wide;", 3, at - 5);
        error(STEPS_491 + nine.substring(5) + "wide;wide;", 4, at);
        error("back 0 2;" + STEPS_491 + nine, 3, 0);
        error(STEPS_491 + nine + "wide;x", 1, at + 5);
        RadixDesk desk = Check.deskWith(STEPS_491 + nine + "wide;");
        Check.due("errorKind() of 501 steps", desk.errorKind(), 4);
        Check.due("errorKind() of them again", desk.errorKind(), 4);
        desk.clearText();
        Check.type(desk, STEPS_491 + nine);
        Check.due("run() of 500 steps behind them", desk.run(), 500);
        Check.due("run() of 500 steps again", desk.run(), 500);
    }

    private static void stepsOfLoops() {
        Check.sentence("Terms 4", "Each statement is a step each time that it is carried out, a \"loop\" too, ahead of its"
            + " block.");
        steps("", 0);
        steps("wide;", 1);
        steps("loop 0{}", 1);
        steps("loop 50{}", 1);
        steps("loop 0{wide;}", 1);
        steps("loop 1{wide;}", 2);
        steps("loop 50{wide;}", 51);
        steps("loop 50{loop 0{}}", 51);
        steps("loop 50{loop 50{}}", 51);
        steps("loop 3{loop 2{wide;}}", 10);
        steps("loop 9{loop 50{wide;}wide;}", 469);
        steps("loop 9{loop 49{wide;}wide;wide;wide;wide;}wide;wide;", 489);
        steps("wide;".repeat(60), 60);
        steps("loop 49{wide;wide;wide;wide;wide;wide;wide;wide;wide;wide;}" + "wide;".repeat(9), 500);
        error("loop 49{wide;wide;wide;wide;wide;wide;wide;wide;wide;wide;}" + "wide;".repeat(9) + "loop 0{}", 4, 104);
        error("loop 50{wide;wide;wide;wide;wide;wide;wide;wide;wide; narrow;}", 4, 54);
        error("loop 50{wide;wide;wide;wide;wide;wide;wide;wide;wide; loop 0{}}", 4, 54);
    }

    private static void innermost() {
        Check.sentence("Terms 4", "Both are told at the first byte of the statement, the innermost one.");
        error("  divide  0 0 0;", 3, 2);
        error("loop 2{divide 0 0 0;}", 3, 7);
        error("loop 2{loop 2{ loop 2{loop 2{  divide 0 0 0;}}}}", 3, 31);
        error("set 1 1;loop 9{ subtract 1 1; divide 0 1 1;}", 3, 30);
        error("loop 2{wide;}\n\nback 0 10;", 3, 15);
        error("loop 50{loop 50{wide;}}", 4, 16);
        error("loop 50{loop 9{wide;}}", 4, 15);
        error("loop 50{ loop 50{ loop 50{ loop 50{ narrow;}}}}", 4, 36);
        error("loop 50{ loop 50{ loop 50{ loop 0{ narrow;}}}}", 4, 27);
        error("loop 50{loop 50{}wide;loop 50{}wide;loop 50{}wide;loop 50{}wide;loop 50{} wide;}", 4, 74);
        error(STEPS_491 + "loop 50{ wide;}", 4, STEPS_491.length() + 9);
        error(STEPS_491 + "wide;".repeat(8) + "loop 50{ wide;}", 4, STEPS_491.length() + 49);
        error(STEPS_491 + "wide;".repeat(9) + "loop 50{ wide;}", 4, STEPS_491.length() + 45);
        error("loop 10{loop 50{set 1 0;}divide 0 1 2;}", 3, 25);
    }

    private static void kinds() {
        Check.sentence("Promise 40", "Returns the kind of the error of the text as a program.");
        String[] texts = {"x", "set 8 1;", "divide 0 1 2;", "loop 50{loop 50{}loop 9{wide;}}"};
        for (int k = 0; k < texts.length; k++) {
            Check.due("errorKind() of \"" + texts[k] + "\"", Check.deskWith(texts[k]).errorKind(), k + 1);
        }
        Check.sentence("Promise 40", "Returns 1 to 4; 0 without an error.");
        Check.due("errorKind() of nothing", new RadixDesk().errorKind(), 0);
        RadixDesk desk = new RadixDesk();
        for (int round = 0; round < 2; round++) {
            for (int k = 0; k < texts.length; k++) {
                desk.clearText();
                Check.due("errorKind() of an empty text", desk.errorKind(), 0);
                Check.type(desk, texts[k]);
                Check.due("errorKind() of \"" + texts[k] + "\" then", desk.errorKind(), k + 1);
            }
        }
        for (int which = 0; which < 3; which++) {
            desk.example(which);
            Check.due("errorKind() of example " + which, desk.errorKind(), 0);
        }
        Edge.changesNothing("errorKind()", RadixDesk::errorKind);
    }

    private static void places() {
        Check.sentence("Promise 41", "Returns the place of the error of the text as a program.");
        String[] texts = {" x", "set 8 1;", "wide;divide 0 1 2;", "loop 50{loop 50{}loop 9{wide;}}"};
        int[] places = {1, 4, 5, 24};
        for (int k = 0; k < texts.length; k++) {
            Check.due("errorPlace() of \"" + texts[k] + "\"", Check.deskWith(texts[k]).errorPlace(), places[k]);
        }
        Check.sentence("Promise 41", "Returns the index of a byte, or the length of the text; NONE without an error.");
        Check.due("errorPlace() of nothing", new RadixDesk().errorPlace(), RadixDesk.NONE);
        Check.due("errorPlace() of \"wide\"", Check.deskWith("wide").errorPlace(), 4);
        Check.due("errorPlace() at 299", Check.deskWith(" ".repeat(299) + ";").errorPlace(), 299);
        Check.due("errorPlace() at 300", Check.deskWith(" ".repeat(296) + "wide").errorPlace(), 300);
        Check.due("errorPlace() at 0", Check.deskWith(";" + " ".repeat(299)).errorPlace(), 0);
        RadixDesk desk = new RadixDesk();
        for (int k = 0; k < texts.length; k++) {
            desk.clearText();
            Check.due("errorPlace() of an empty text", desk.errorPlace(), RadixDesk.NONE);
            Check.type(desk, texts[k]);
            Check.due("errorPlace() of \"" + texts[k] + "\" then", desk.errorPlace(), places[k]);
        }
        for (int which = 0; which < 3; which++) {
            desk.example(which);
            Check.due("errorPlace() of example " + which, desk.errorPlace(), RadixDesk.NONE);
        }
        Edge.changesNothing("errorPlace()", RadixDesk::errorPlace);
    }

    private static void runs() {
        Check.sentence("Promise 42", "Runs the text as a program: the cells, the page and the width become as its copies"
            + " are in the end.");
        Edge.changesNothing("run() of no statement", () -> page(" \n", true), RadixDesk::run);
        RadixDesk desk = page("wide;set 0 -255;writeplain 0 16;set 7 4294967296;", false);
        desk.run();
        Check.due("the desk after run()", Check.wholeState(desk), "wide ffffffffffffff01 ffffffffffffffff 2 3 4 5 6"
            + " 100000000 text 49 wide;set 0 -255;writeplain 0 16;set 7 4294967296; page ffffffffffffff01");
        RadixDesk narrow = page("wide;set 0 -255;narrow;writeplain 0 16;", true);
        narrow.run();
        Check.due("isWide() after run()", narrow.isWide(), false);
        Check.due("page after run()", Check.page(narrow), "ffffff01");
        RadixDesk twice = with("add 0 1;write 0 10;", false, 5, 3);
        twice.run();
        twice.run();
        Check.due("number(0) after two runs", twice.number(0), 11);
        Check.due("page after two runs", Check.page(twice), "11");
        Check.sentence("Promise 42", "Returns the number of steps.");
        Check.due("run() of nothing", new RadixDesk().run(), 0);
        int[] steps = {243, 164, 409};
        for (int which = 0; which < 3; which++) {
            RadixDesk example = new RadixDesk();
            example.example(which);
            Check.due("run() of example " + which, example.run(), steps[which]);
        }
        Check.due("run() of 500 steps", Check.deskWith(STEPS_491 + "wide;".repeat(9)).run(), 500);
        Check.sentence("Promise 42", "Throws `IllegalStateException` if the text has an error");
        for (String text : new String[] {"x", "wide;set 0 1;x", "set 8 1;", "wide;set 0 1;write 0 2;set 0",
                "wide;set 2 0;set 0 1;write 0 2;divide 0 2 2;", "set 1 9;write 1 7;wide;back 1 7;back 1 2;",
                "loop 2{set 7 99;wide;}read 1 10 x;", "set 3 9;wide;loop 50{loop 50{write 1 9;}}"}) {
            Edge.refused("run() of \"" + text + "\" (narrow)", HAS_ERROR, () -> page(text, false), RadixDesk::run);
            Edge.refused("run() of \"" + text + "\" (wide)", HAS_ERROR, () -> page(text, true), RadixDesk::run);
        }
        Edge.taken("run() of 500 steps", Check.deskWith(STEPS_491 + "wide;".repeat(9)), RadixDesk::run);
    }
}
