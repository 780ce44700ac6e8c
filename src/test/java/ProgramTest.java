/** Promises 40 to 42: the error of the text as a program, and running it. */
public final class ProgramTest {
    public static void main(String[] args) {
        words();
        wrongWords();
        wrongNumbers();
        endsTooEarly();
        depth();
        notDone();
        steps();
        statements();
        wholeRuns();
        nothingChanges();
        Check.end();
    }

    private static void error(String text, int kind, int place) {
        RadixDesk desk = Check.deskWith(text);
        error(desk, text, kind, place);
    }

    private static void error(RadixDesk desk, String text, int kind, int place) {
        String before = Check.state(desk);
        Check.due("errorPlace() asked first of " + text, desk.errorPlace(), place);
        Check.due("errorKind() of " + text, desk.errorKind(), kind);
        Check.due("errorPlace() of " + text, desk.errorPlace(), place);
        Check.due("the desk after the errors of " + text, Check.state(desk), before);
        if (kind != 0) {
            Check.fails("run() of " + text, IllegalStateException.class, desk, desk::run);
        }
    }

    private static RadixDesk ran(String text, int steps) {
        return ran(new RadixDesk(), text, steps);
    }

    private static RadixDesk ran(RadixDesk desk, String text, int steps) {
        desk.clearText();
        Check.type(desk, text);
        Check.due("errorKind() of " + text, desk.errorKind(), 0);
        Check.due("errorPlace() of " + text, desk.errorPlace(), RadixDesk.NONE);
        Check.due("run() of " + text, desk.run(), steps);
        Check.due("text after the run of " + text, Check.text(desk), text);
        return desk;
    }

    private static void bits(RadixDesk desk, int cell, long want) {
        Check.due("bits of cell " + cell + " after " + Check.text(desk), Check.bits(desk, cell), want);
    }

    private static void words() {
        ran("", 0);
        ran("   \n ", 0);
        ran("wide;", 1);
        ran("\n\n wide \n;\n", 1);
        ran("wide;narrow;set 0 1;", 3);
        ran("loop 2{}loop 0{wide;}", 2);
        ran("set\n0\n1\n;set 1 2;", 2);
        error("wide,;", 1, 0);
        error("wide\t;", 1, 0);
        error("\twide;", 1, 0);
        error("wide\r;", 1, 0);
        error("wide\u00a0;", 1, 0);
        error("wide:;", 1, 0);
        error("Wide;", 1, 0);
        error("WIDE;", 1, 0);
        error("wid;", 1, 0);
        error("widee;", 1, 0);
        error("set0 1 2;", 1, 0);
        error("readPlain 0 2 1;", 1, 0);
    }

    private static void wrongWords() {
        error(";", 1, 0);
        error("{", 1, 0);
        error("}", 1, 0);
        error(" } ", 1, 1);
        error("wide;;", 1, 5);
        error("wide;}", 1, 5);
        error("wide wide;", 1, 5);
        error("wide 0;", 1, 5);
        error("wide}", 1, 4);
        error("wide{", 1, 4);
        error("set;", 1, 3);
        error("set 0;", 1, 5);
        error("set 0 {", 1, 6);
        error("set 0 1 2;", 1, 8);
        error("read 0 10 ;", 1, 10);
        error("read 0 10 } ;", 1, 10);
        error("read 0 10 1 1;", 1, 12);
        error("read 0 10 1{;", 1, 11);
        error("loop;", 1, 4);
        error("loop 3;", 1, 6);
        error("loop 3 wide;", 1, 7);
        error("loop {", 1, 5);
        error("loop 3{;}", 1, 7);
        error("loop 3{{}}", 1, 7);
        error("loop 3{}}", 1, 8);
        error("loop 3{};", 1, 8);
        error("loop 3{wide;};", 1, 13);
        error("add 0 1 2;", 1, 8);
        error("divide 0 1;", 1, 10);
        error("reverse 0 1;", 1, 10);
        error("unknown;", 1, 0);
        error("wide; unknown 9;", 1, 6);
    }

    private static void wrongNumbers() {
        error("set 8 1;", 2, 4);
        error("set -1 1;", 2, 4);
        error("set x 1;", 2, 4);
        error("set set 1;", 2, 4);
        error("set loop 1;", 2, 4);
        error("set 0 x;", 2, 6);
        error("set 0 9223372036854775808;", 2, 6);
        error("set 0 -9223372036854775809;", 2, 6);
        error("set 0 18446744073709551616;", 2, 6);
        error("set 0 +;", 2, 6);
        error("set 0 0x1;", 2, 6);
        error("set 18446744073709551617 1;", 2, 4);
        error("set 4294967296 1;", 2, 4);
        error("write 0 1;", 2, 8);
        error("write 0 37;", 2, 8);
        error("write 0 0;", 2, 8);
        error("write 0 -2;", 2, 8);
        error("write 0 4294967298;", 2, 8);
        error("read 0 37 1;", 2, 7);
        error("readplain 9 10 1;", 2, 10);
        error("read 9 ;", 2, 5);
        error("read 9", 2, 5);
        error("back 0 1;", 2, 7);
        error("backplain 0 a;", 2, 12);
        error("loop 51{}", 2, 5);
        error("loop -1{}", 2, 5);
        error("loop x{}", 2, 5);
        error("loop wide;{}", 2, 5);
        error("loop 4294967296{}", 2, 5);
        error("count 0 8;", 2, 8);
        error("divide 0 1 8;", 2, 11);
        error("compareplain 0 8 9;", 2, 15);
        error("left 0 8;", 2, 7);
        error("wide;set 9 x", 2, 9);
        error("set 9 x;;", 2, 4);
        error("divide 0 0 0;set 9 1;", 2, 17);
        ran("set +7 +9223372036854775807;", 1);
        ran("set -0 -9223372036854775808;", 1);
        ran("set 007 00;write 00 +036;write 1 02;", 3);
        ran("loop 0{}loop 50{}loop -00{}loop +050{}", 4);
        ran("narrow;set 0 4294967296;", 2);
    }

    private static void endsTooEarly() {
        error("w", 1, 0);
        error("wide", 1, 4);
        error("wide  \n", 1, 7);
        error("set", 1, 3);
        error("set 0", 1, 5);
        error("set 0 ", 1, 6);
        error("set 0 1", 1, 7);
        error("read 0 10", 1, 9);
        error("read 0 10 1 ", 1, 12);
        error("loop", 1, 4);
        error("loop 3", 1, 6);
        error("loop 3{", 1, 7);
        error("loop 3{ wide; ", 1, 14);
        error("loop 3{loop 3{}", 1, 15);
        error("a".repeat(300), 1, 0);
        error("wide;".repeat(59) + "wide", 1, 299);
        error(" ".repeat(296) + "wide", 1, 300);
    }

    private static void depth() {
        ran("loop 1{loop 1{loop 1{loop 1{wide;}}}}", 5);
        error("loop 1{loop 1{loop 1{loop 1{loop 1{}}}}}", 2, 28);
        error("loop 1{loop 1{loop 1{loop 1{ wide; loop x", 2, 35);
        error("loop 1{loop 1{loop 1{loop 1{ loop", 2, 29);
        ran("loop 1{loop 1{loop 1{loop 1{}loop 1{}}}}loop 1{loop 1{}}", 7);
        ran("loop 50{}".repeat(33), 33);
        error("{".repeat(300), 1, 0);
        error("loop 0{".repeat(42), 2, 28);
    }

    private static void notDone() {
        error("back 0 10;", 3, 0);
        error("wide; back 0 10;", 3, 6);
        error("read 0 10 x;", 3, 0);
        error("read 0 10 2147483648;", 3, 0);
        error("wide;read 0 10 2147483648;narrow; read 0 10 2147483648;", 3, 34);
        error("readplain 0 10 -0;", 3, 0);
        error("readplain 0 10 4294967296;", 3, 0);
        error("read 0 10 +;", 3, 0);
        error("read 0 10 1\u00e9;", 3, 0);
        error("divide 0 1 2;", 3, 0);
        error("divideplain 0 0 0;", 3, 0);
        error("set 1 4294967296;divide 0 1 2;", 3, 17);
        error("loop 2{ loop 3{\n divide 0 1 2;}}", 3, 17);
        error("set 1 3;set 2 1;loop 9{ subtract 1 2; divide 1 1 3; }", 3, 38);
        error("set 0 -1;write 0 10;backplain 1 10;", 3, 20);
        error("set 0 -1;writeplain 0 10;back 1 10;", 3, 25);
        error("loop 0{divide 0 0 0;}back 0 2;", 3, 21);
        RadixDesk desk = Check.deskWith("back 0 9;");
        desk.set(0, 9);
        desk.write(0, 10, false);
        error(desk, "back 0 9; of the page 9", 3, 0);
        desk.set(0, 8);
        desk.write(0, 10, false);
        error(desk, "back 0 9; of the page 8", 0, RadixDesk.NONE);
    }

    private static void steps() {
        ran("loop 49{loop 9{wide;}}wide;wide;wide;wide;wide;wide;wide;wide;wide;", 500);
        error("loop 49{loop 9{wide;}}wide;wide;wide;wide;wide;wide;wide;wide;wide; narrow;", 4, 68);
        error("loop 49{loop 9{wide;}}wide;wide;wide;wide;wide;wide;wide;wide;wide; loop 0{}", 4, 68);
        error("loop 49{loop 9{wide;}}wide;wide;wide;wide;wide;wide;wide;wide;wide;divide 0 0 0;", 4, 67);
        error("loop 50{loop 50{}wide;loop 50{}wide;loop 2{}wide;loop 2{}wide;loop 2{} wide;}", 4, 71);
        error("loop 49{loop 9{wide;}}wide;wide;wide;wide;wide;wide;wide;wide;divide 0 0 0;wide;", 3, 62);
        error("loop 50{loop 50{wide;}}", 4, 16);
        error("loop 50{loop 50{loop 50{}}}", 4, 16);
        ran("loop 9{loop 50{}}", 10);
        ran("loop 49{loop 9{loop 0{}}}", 491);
        error("loop 50{loop 9{loop 0{ narrow;}}}", 4, 15);
        error("loop 50{loop 9{}wide;wide;wide;wide;wide;wide;wide;wide; wide;}", 4, 57);
        ran("wide;".repeat(60), 60);
    }

    private static void statements() {
        RadixDesk desk = ran("set 0 -4294967297;", 1);
        bits(desk, 0, -4294967297L);
        Check.due("number(0) of it", desk.number(0), -1);
        desk = ran("wide;set 7 -9223372036854775808;", 2);
        bits(desk, 7, Long.MIN_VALUE);
        Check.due("isWide() after wide", desk.isWide(), true);
        Check.due("isWide() after narrow", ran(desk, "narrow;", 1).isWide(), false);
        desk = ran("read 1 36 -Zz;readplain 2 16 ffffFFFF;read 3 2 +1;readplain 4 10 +4294967295;", 4);
        bits(desk, 1, -1295);
        bits(desk, 2, -1);
        bits(desk, 3, 1);
        bits(desk, 4, -1);
        desk = ran("wide;readplain 2 16 ffffFFFFffffffff;read 3 10 -9223372036854775808;read 4 36 read;", 4);
        bits(desk, 2, -1);
        bits(desk, 3, Long.MIN_VALUE);
        bits(desk, 4, Long.parseLong("read", 36));
        desk = ran("set 0 -31;write 0 36;back 1 36;writeplain 0 36;backplain 2 36;", 5);
        Check.due("page", Check.page(desk), Integer.toUnsignedString(-31, 36));
        bits(desk, 1, -31);
        bits(desk, 2, -31);
        bitStatements();
        twoCells();
        threeCells();
    }

    private static void bitStatements() {
        long bits = 0x1234_5678_8765_4320L;
        int low = (int) bits;
        String set = "set 0 " + bits + ";";
        bits(ran(set + "reverse 0;", 2), 0, Integer.reverse(low));
        bits(ran("wide;" + set + "reverse 0;", 3), 0, Long.reverse(bits));
        bits(ran(set + "bytes 0;", 2), 0, Integer.reverseBytes(low));
        bits(ran("wide;" + set + "bytes 0;", 3), 0, Long.reverseBytes(bits));
        bits(ran(set + "highest 0;", 2), 0, Integer.MIN_VALUE);
        bits(ran("wide;" + set + "highest 0;", 3), 0, Long.highestOneBit(bits));
        bits(ran(set + "lowest 0;", 2), 0, 0x20);
        bits(ran("wide;" + set + "lowest 0;", 3), 0, 0x20);
        bits(ran(set + "spread 0;", 2), 0, 0x8765_4320L);
        bits(ran("wide;" + set + "spread 0;", 3), 0, 0x8765_4320L);
        bits(ran("set 0 4294967296;highest 0;", 2), 0, 0);
        bits(ran("set 0 4294967296;lowest 0;", 2), 0, 0);
    }

    private static void twoCells() {
        String set = "set 0 -4294967281;set 1 9;set 2 4294967297;set 3 -4294967301;";
        String more = "wide;" + set;
        bits(ran(set + "count 0 1;", 5), 1, 4);
        bits(ran(more + "count 0 1;", 6), 1, 36);
        bits(ran(set + "leading 0 1;", 5), 1, 28);
        bits(ran(more + "leading 0 1;", 6), 1, 0);
        bits(ran(set + "set 0 96;trailing 0 1;", 6), 1, 5);
        bits(ran(more + "set 0 0;trailing 0 1;", 7), 1, 64);
        bits(ran(set + "ones 0 1;", 5), 1, 4);
        bits(ran(more + "set 0 -1;ones 0 1;", 7), 1, 64);
        bits(ran(set + "count 0 0;", 5), 0, 4);
        bits(ran(set + "left 0 2;", 5), 0, 0xf << 1);
        bits(ran(more + "left 0 2;", 6), 0, Long.rotateLeft(-4294967281L, 1));
        bits(ran(set + "right 0 2;", 5), 0, Integer.rotateRight(0xf, 1));
        bits(ran(more + "right 0 2;", 6), 0, Long.rotateRight(-4294967281L, 1));
        bits(ran(set + "left 0 3;", 5), 0, Integer.rotateRight(0xf, 5));
        bits(ran(more + "left 0 3;", 6), 0, Long.rotateRight(-4294967281L, 5));
        bits(ran(more + "set 3 4294967295;right 0 3;", 7), 0, Long.rotateLeft(-4294967281L, 1));
        bits(ran(set + "left 1 1;", 5), 1, 9 << 9);
        bits(ran(set + "add 0 1;", 5), 0, 24);
        bits(ran(set + "subtract 1 0;", 5), 1, -6);
        bits(ran(set + "multiply 0 1;", 5), 0, 135);
        bits(ran(set + "and 0 1;", 5), 0, 9);
        bits(ran(set + "or 1 0;", 5), 1, 15);
        bits(ran(set + "xor 0 1;", 5), 0, 6);
        bits(ran(more + "add 0 1;", 6), 0, -4294967272L);
        bits(ran(more + "subtract 1 0;", 6), 1, 4294967290L);
        bits(ran(more + "multiply 0 2;", 6), 0, -4294967281L * 4294967297L);
        bits(ran(more + "and 0 2;", 6), 0, -4294967281L & 4294967297L);
        bits(ran(more + "or 0 2;", 6), 0, -4294967281L | 4294967297L);
        bits(ran(more + "xor 0 0;", 6), 0, 0);
    }

    private static void threeCells() {
        String set = "set 0 -17;set 1 5;set 2 4294967290;";
        RadixDesk desk = ran(set + "divide 0 1 3;", 4);
        bits(desk, 0, -3);
        bits(desk, 3, -2);
        desk = ran(set + "divideplain 0 1 3;", 4);
        bits(desk, 0, 4294967279L / 5);
        bits(desk, 3, 4294967279L % 5);
        desk = ran("wide;" + set + "divideplain 0 1 1;", 5);
        bits(desk, 0, Long.divideUnsigned(-17, 5));
        bits(desk, 1, Long.remainderUnsigned(-17, 5));
        bits(ran(set + "divide 0 1 0;", 4), 0, -2);
        bits(ran(set + "compare 0 2 3;", 4), 3, -1);
        bits(ran(set + "compare 2 0 3;", 4), 3, 1);
        bits(ran(set + "compare 0 0 0;", 4), 0, 0);
        bits(ran(set + "compare 0 1 3;", 4), 3, -1);
        bits(ran(set + "compareplain 0 1 3;", 4), 3, 1);
        bits(ran("wide;" + set + "compare 2 1 3;", 5), 3, 1);
        bits(ran(set + "compare 2 1 1;", 4), 1, -1);
        bits(ran("wide;" + set + "compareplain 2 0 2;", 5), 2, -1);
    }

    private static void wholeRuns() {
        int[] steps = {243, 164, 409};
        for (int which = 0; which < 3; which++) {
            RadixDesk desk = new RadixDesk();
            desk.example(which);
            Check.due("errorKind() of example " + which, desk.errorKind(), 0);
            Check.due("errorPlace() of example " + which, desk.errorPlace(), RadixDesk.NONE);
            Check.due("run() of example " + which, desk.run(), steps[which]);
            Check.due("isWide() after example " + which, desk.isWide(), which == 1);
        }
        RadixDesk desk = new RadixDesk();
        desk.set(0, 6);
        ran(desk, "multiply 0 0;write 0 10;", 2);
        Check.due("a second run()", desk.run(), 2);
        Check.due("number(0)", desk.number(0), 1296);
        Check.due("page", Check.page(desk), "1296");
        ran(desk, "back 1 16;", 1);
        Check.due("number(1)", desk.number(1), 0x1296);
        Check.due("the page stays", Check.page(desk), "1296");
    }

    private static RadixDesk written(String text) {
        RadixDesk desk = Check.deskWith(text);
        desk.set(0, 5);
        desk.write(0, 2, false);
        return desk;
    }

    private static void nothingChanges() {
        error(written("wide;fill"), "wide;fill", 1, 5);
        error(written("wide;set 0 1;write 0 10;divide 0 5 1;"), "wide; .. divide by 0", 3, 24);
        error(written("wide;set 0 1;loop 50{loop 9{write 0 3;}}"), "wide; .. too many steps", 4, 28);
        RadixDesk desk = written("set 0 77;wide;write 0 8;");
        error(desk, "a program that could run", 0, RadixDesk.NONE);
        Check.due("number(0) before run()", desk.number(0), 5);
        Check.due("run()", desk.run(), 3);
        Check.due("number(0) then", desk.number(0), 77);
        Check.due("page then", Check.page(desk), "115");
        Check.due("isWide() then", desk.isWide(), true);
    }
}
