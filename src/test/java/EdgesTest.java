import java.io.IOException;

/**
 * Every sentence of the document, with the edges that it names: each part quotes the sentence, tests it, and in the end
 * the quotations are compared with ../shared/DOC.md, which may have no word that none of them has.
 */
public final class EdgesTest {
    public static void main(String[] args) throws IOException {
        whatItIs();
        lastCall();
        CellEdges.run();
        TextEdges.run();
        WritingEdges.run();
        ReadingEdges.run();
        BitEdges.run();
        CombineEdges.run();
        GrammarEdges.run();
        RunEdges.run();
        ArgumentEdges.run();
        Check.endSentence();
        if (Document.isThere()) {
            Document.compareWith(Check.sentences());
        } else {
            System.out.println("the document is not there: its sentences were not compared");
        }
        Check.end();
    }

    private static void whatItIs() {
        Check.sentence("What it is", "A desk for whole numbers that are written in any radix from 2 to 36 and taken"
            + " apart bit by bit:");
        for (int radix = 2; radix <= 36; radix++) {
            RadixDesk desk = Edge.deskOf(true, -1, 0x7fff_ffff_ffff_ff5aL);
            desk.write(1, radix, false);
            Check.due("page in radix " + radix, Check.page(desk), Long.toString(0x7fff_ffff_ffff_ff5aL, radix));
            for (int bit = 0; bit < 64; bit++) {
                Check.due("bit " + bit, desk.digitAt(1, 2, 0, true), (int) (0x7fff_ffff_ffff_ff5aL >>> bit) & 1);
                desk.rotate(1, 1, false);
            }
        }
        Check.sentence("What it is", "cells for numbers, a text from which numbers are read, a page on which they are"
            + " written, and programs that do this many times.");
        RadixDesk desk = Check.deskWith("loop 9 { write 0 5 ; back 1 4 ; add 0 1 ; } 2 1");
        desk.read(0, 44, 45, 10, false);
        Check.due("a number that is read from the text", desk.number(0), 2);
        Check.due("a program with its number behind it", desk.errorPlace(), 44);
        desk.clearText();
        Check.type(desk, "loop 2 { write 0 5 ; back 1 6 ; add 0 1 ; }");
        Check.due("a program", desk.run(), 7);
        Check.due("the number in its cell", desk.number(0), 8);
        Check.due("the page", Check.page(desk), "4");
    }

    private static void lastCall() {
        Check.sentence("What it is", "An object is used for at most 512 calls after it has been made; what later calls"
            + " answer is free.");
        RadixDesk dearest = new RadixDesk();
        dearest.example(2);
        dearest.setWide(true);
        for (int call = 3; call <= 512; call += 3) {
            Check.due("errors() as call " + call, dearest.errors(), 0);
            Check.due("errorKind() as call " + (call + 1), dearest.errorKind(), 0);
            Check.due("run() as call " + (call + 2), dearest.run(), 409);
        }
        RadixDesk longest = new RadixDesk();
        for (int call = 1; call <= 300; call++) {
            Check.due("type() as call " + call, longest.type('a'), call);
        }
        for (int call = 301; call <= 511; call++) {
            Check.due("type() as call " + call + " throws", Check.thrownBy(() -> longest.type('b')),
                IllegalStateException.class);
        }
        Check.due("textAt() as call 512", longest.textAt(299), 'a');
    }
}
