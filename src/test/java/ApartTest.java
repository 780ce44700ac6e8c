import java.util.ArrayList;
import java.util.List;
import java.util.function.Function;

/** No object has anything of another one: calls answer the same, whatever is asked of a second desk in between. */
public final class ApartTest {
    private static final List<Function<RadixDesk, Object>> CALLS = List.of(
        desk -> desk.fill(0x0123_4567_89ab_cdefL, -0x1111_1111_1111L), desk -> desk.setWide(true),
        desk -> desk.write(3, 36, false), desk -> desk.copyPage(), desk -> desk.type(0x3b20_2020L),
        desk -> desk.errorKind(), desk -> desk.errorPlace(), desk -> desk.read(1, 0, 5, 36, true),
        desk -> desk.sort(false), desk -> desk.divide(2, 1, 6, true), desk -> desk.reverse(2), desk -> desk.errors(),
        desk -> desk.example(1), desk -> desk.errorKind(), desk -> desk.run(), desk -> desk.readPage(0, 16, true),
        desk -> desk.digitSum(3, 7, false), desk -> desk.longest(3, true), desk -> desk.combine(0, 3, RadixDesk.XOR),
        desk -> desk.rotate(0, 9, false), desk -> desk.sort(true), desk -> desk.writeBits(6, RadixDesk.OCTAL),
        desk -> desk.example(2), desk -> desk.run(), desk -> desk.errorPlace(), desk -> desk.meanCount(),
        desk -> desk.negativeShare(), desk -> desk.isMirror(1, 2, false), desk -> desk.clearText(),
        desk -> desk.type(0x73657420_39203b20L), desk -> desk.errorKind(), desk -> desk.errorPlace(),
        desk -> Check.state(desk));

    public static void main(String[] args) {
        List<Object> alone = new ArrayList<>();
        RadixDesk one = new RadixDesk();
        CALLS.forEach(call -> alone.add(call.apply(one)));
        for (int before = 0; before < CALLS.size(); before++) {
            inTurn(before, alone);
        }
        Check.end();
    }

    /** The second desk is so many calls ahead, and asked in turn with the first one. */
    private static void inTurn(int ahead, List<Object> alone) {
        RadixDesk first = new RadixDesk();
        RadixDesk second = new RadixDesk();
        for (int k = 0; k < CALLS.size() + ahead; k++) {
            if (k < CALLS.size()) {
                Check.due("call " + k + " of the desk ahead", CALLS.get(k).apply(second), alone.get(k));
            }
            int behind = k - ahead;
            if (behind >= 0) {
                Check.due("call " + behind + " of the desk " + ahead + " behind", CALLS.get(behind).apply(first),
                    alone.get(behind));
            }
        }
    }
}
