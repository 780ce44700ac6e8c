import java.io.IOException;

/**
 * Every sentence of the document's terms and promises, with the edges that it names: each part quotes the sentence, tests
 * it, and in the end the quotations are compared with ../shared/DOC.md, which may have no word that none of them has.
 */
public final class EdgesTest {
    public static void main(String[] args) throws IOException {
        CellEdges.run();
        TextEdges.run();
        WritingEdges.run();
        ReadingEdges.run();
        BitEdges.run();
        CombineEdges.run();
        GrammarEdges.run();
        RunEdges.run();
        Check.endSentence();
        lastCall();
        if (Document.isThere()) {
            Document.compareWith(Check.sentences());
        } else {
            System.out.println("the document is not there: its sentences were not compared");
        }
        Check.end();
    }

    /** An object is promised for 512 calls: the dearest ones of them, up to the last. */
    private static void lastCall() {
        RadixDesk desk = new RadixDesk();
        desk.example(2);
        desk.setWide(true);
        for (int call = 3; call <= 512; call += 3) {
            Check.due("errors() as call " + call, desk.errors(), 0);
            Check.due("errorKind() as call " + (call + 1), desk.errorKind(), 0);
            Check.due("run() as call " + (call + 2), desk.run(), 409);
        }
    }
}
