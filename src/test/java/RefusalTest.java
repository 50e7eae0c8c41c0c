import java.util.function.Supplier;
import java.util.function.ToIntFunction;

/** "Refused, and nothing changes": each refused call against an object that did not get it; and numbers far outside. */
public final class RefusalTest {
    private static final int UNKNOWN = -2, OUTSIDE = -3, STATE = -4, ROOM = -5;
    /** No argument of any call may be one of these; some are right ones plus a power of 2, or times 6 would be. */
    private static final int[] FAR = {
        Integer.MIN_VALUE, Integer.MIN_VALUE + 1, Integer.MIN_VALUE + 2, -715827882, -65536, -65535, -256, -255, -64, -32, -31,
        -3, -2, -1, 1200, 1201, 4096, 65535, 65536, 65537, 1 << 24, 1 << 30, 715827882, 715827883, 1431655766,
        Integer.MAX_VALUE - 1, Integer.MAX_VALUE};

    public static void main(String[] args) {
        refusedByANewObject();
        refusedByAFullOne();
        refusedByOneThatDoesNotFail();
        numbersFarOutside();
        manyCalls();
        Due.end();
    }

    private static PartitionPlay fresh() {
        PartitionPlay x = new PartitionPlay(3);
        x.tell(1, 4);
        x.behaviour(2, 1);
        x.delay(0, 2, 3);
        x.event(6, 0, 2, 4);
        return x;
    }

    private static PartitionPlay full() {
        PartitionPlay x = new PartitionPlay(3);
        x.behaviour(0, 1);
        x.behaviour(1, 1);
        x.tell(0, 0);
        x.tell(2, 7);
        x.delay(2, 1, 2);
        x.event(2, 1, 0, 0);
        x.event(2, 1, 1, 0);
        for (int i = 0; i < 18; i++) {
            x.event(4 + i % 3, 0, 3 * i, 1 + i % 5);
        }
        x.play(7);
        return x;
    }

    private static PartitionPlay calm() {
        PartitionPlay x = new PartitionPlay(2);
        x.event(0, 1, 1, 0);
        x.event(1, 2, 0, 0);
        x.tell(0, 3);
        x.play(5);
        return x;
    }

    /** Another object that is made alike shows what this one's state was. */
    private static void refuses(Supplier<PartitionPlay> made, String call, int answer, ToIntFunction<PartitionPlay> asked) {
        PartitionPlay x = made.get();
        Due.due(call, asked.applyAsInt(x), answer);
        Due.dueText("behind " + call, Face.ofAllAndANewPlay(x), Face.ofAllAndANewPlay(made.get()));
    }

    private static void refusedByANewObject() {
        Due.about("Refused, and nothing changes: without a PLAY");
        Supplier<PartitionPlay> made = RefusalTest::fresh;
        refuses(made, "play(0)", OUTSIDE, x -> x.play(0));
        refuses(made, "play(41)", OUTSIDE, x -> x.play(41));
        refuses(made, "height(0, 0)", UNKNOWN, x -> x.height(0, 0));
        refuses(made, "holds(0)", UNKNOWN, x -> x.holds(0));
        refuses(made, "fails()", STATE, x -> x.fails());
        refuses(made, "letter(0, 0)", UNKNOWN, x -> x.letter(0, 0));
        refuses(made, "reached(8)", UNKNOWN, x -> x.reached(8));
        refuses(made, "reached(7)", STATE, x -> x.reached(7));
        refuses(made, "bytes(3)", UNKNOWN, x -> x.bytes(3));
        refuses(made, "bytes(2)", STATE, x -> x.bytes(2));
        refuses(made, "shrink()", STATE, x -> x.shrink());
        refuses(made, "minimal()", STATE, x -> x.minimal());
        refuses(made, "sets(6)", OUTSIDE, x -> x.sets(6));
        refuses(made, "sets(5)", STATE, x -> x.sets(5));
        refuses(made, "count(7)", UNKNOWN, x -> x.count(7));
    }

    private static void refusedByAFullOne() {
        Due.about("Refused, and nothing changes: with 20 EVENTS");
        Supplier<PartitionPlay> made = RefusalTest::full;
        Due.due("it fails", made.get().fails(), 2);
        refuses(made, "behaviour(3, 0)", UNKNOWN, x -> x.behaviour(3, 0));
        refuses(made, "behaviour(0, 4)", OUTSIDE, x -> x.behaviour(0, 4));
        refuses(made, "delay(2, 2, 1)", UNKNOWN, x -> x.delay(2, 2, 1));
        refuses(made, "delay(3, 0, 1)", UNKNOWN, x -> x.delay(3, 0, 1));
        refuses(made, "delay(2, 1, 0)", OUTSIDE, x -> x.delay(2, 1, 0));
        refuses(made, "delay(2, 1, 6)", OUTSIDE, x -> x.delay(2, 1, 6));
        refuses(made, "tell(3, 0)", UNKNOWN, x -> x.tell(3, 0));
        refuses(made, "tell(0, 8)", UNKNOWN, x -> x.tell(0, 8));
        refuses(made, "event(7, 0, 0, 1)", UNKNOWN, x -> x.event(7, 0, 0, 1));
        refuses(made, "event(2, 0, 3, 0)", UNKNOWN, x -> x.event(2, 0, 3, 0));
        refuses(made, "event(0, 40, 1, 0)", OUTSIDE, x -> x.event(0, 40, 1, 0));
        refuses(made, "event(4, 0, 1200, 0)", OUTSIDE, x -> x.event(4, 0, 1200, 0));
        for (int kind = 0; kind <= 6; kind++) {
            int k = kind;
            refuses(made, "event(" + k + ", 0, 1, 1)", ROOM, x -> x.event(k, 0, 1, 1));
        }
        refuses(made, "drop(20)", UNKNOWN, x -> x.drop(20));
        refuses(made, "told(20, 0)", UNKNOWN, x -> x.told(20, 0));
        refuses(made, "told(19, 4)", UNKNOWN, x -> x.told(19, 4));
        refuses(made, "play(0)", OUTSIDE, x -> x.play(0));
        refuses(made, "play(41)", OUTSIDE, x -> x.play(41));
        refuses(made, "height(7, 0)", UNKNOWN, x -> x.height(7, 0));
        refuses(made, "sets(6)", OUTSIDE, x -> x.sets(6));
    }

    private static void refusedByOneThatDoesNotFail() {
        Due.about("Refused, and nothing changes: a PLAY that does not FAIL");
        Supplier<PartitionPlay> made = RefusalTest::calm;
        refuses(made, "shrink()", STATE, x -> x.shrink());
        refuses(made, "drop(2)", UNKNOWN, x -> x.drop(2));
        refuses(made, "event(2, 0, 2, 0)", UNKNOWN, x -> x.event(2, 0, 2, 0));
    }

    private static void numbersFarOutside() {
        Due.about("Refused: UNKNOWN, OUTSIDE, of numbers far outside");
        for (int far : FAR) {
            farNodes(far);
            farNumbers(far);
            farQuestions(far);
        }
    }

    private static void farNodes(int far) {
        refuses(RefusalTest::calm, "behaviour(" + far + ", 1)", UNKNOWN, x -> x.behaviour(far, 1));
        refuses(RefusalTest::calm, "delay(" + far + ", 1, 2)", UNKNOWN, x -> x.delay(far, 1, 2));
        refuses(RefusalTest::calm, "delay(1, " + far + ", 2)", UNKNOWN, x -> x.delay(1, far, 2));
        refuses(RefusalTest::calm, "tell(" + far + ", 0)", UNKNOWN, x -> x.tell(far, 0));
        refuses(RefusalTest::calm, "event(2, 0, " + far + ", 0)", UNKNOWN, x -> x.event(2, 0, far, 0));
        refuses(RefusalTest::calm, "event(3, 0, " + far + ", 0)", UNKNOWN, x -> x.event(3, 0, far, 0));
        refuses(RefusalTest::calm, "height(1, " + far + ")", UNKNOWN, x -> x.height(1, far));
        refuses(RefusalTest::calm, "bytes(" + far + ")", UNKNOWN, x -> x.bytes(far));
    }

    private static void farNumbers(int far) {
        refuses(RefusalTest::calm, "behaviour(1, " + far + ")", OUTSIDE, x -> x.behaviour(1, far));
        refuses(RefusalTest::calm, "delay(0, 1, " + far + ")", OUTSIDE, x -> x.delay(0, 1, far));
        refuses(RefusalTest::calm, "tell(1, " + far + ")", UNKNOWN, x -> x.tell(1, far));
        refuses(RefusalTest::calm, "event(" + far + ", 0, 0, 1)", UNKNOWN, x -> x.event(far, 0, 0, 1));
        refuses(RefusalTest::calm, "event(1, " + far + ", 0, 1)", OUTSIDE, x -> x.event(1, far, 0, 1));
        refuses(RefusalTest::calm, "event(0, 0, " + far + ", 1)", OUTSIDE, x -> x.event(0, 0, far, 1));
        refuses(RefusalTest::calm, "event(4, 0, " + far + ", 1)", OUTSIDE, x -> x.event(4, 0, far, 1));
        refuses(RefusalTest::calm, "event(5, 0, 0, " + far + ")", OUTSIDE, x -> x.event(5, 0, 0, far));
        refuses(RefusalTest::calm, "play(" + far + ")", OUTSIDE, x -> x.play(far));
        refuses(RefusalTest::calm, "sets(" + far + ")", OUTSIDE, x -> x.sets(far));
    }

    private static void farQuestions(int far) {
        refuses(RefusalTest::calm, "drop(" + far + ")", UNKNOWN, x -> x.drop(far));
        refuses(RefusalTest::calm, "told(" + far + ", 0)", UNKNOWN, x -> x.told(far, 0));
        refuses(RefusalTest::calm, "told(0, " + far + ")", UNKNOWN, x -> x.told(0, far));
        refuses(RefusalTest::calm, "height(" + far + ", 1)", UNKNOWN, x -> x.height(far, 1));
        refuses(RefusalTest::calm, "holds(" + far + ")", UNKNOWN, x -> x.holds(far));
        refuses(RefusalTest::calm, "letter(" + far + ", 0)", UNKNOWN, x -> x.letter(far, 0));
        refuses(RefusalTest::calm, "letter(0, " + far + ")", UNKNOWN, x -> x.letter(0, far));
        refuses(RefusalTest::calm, "reached(" + far + ")", UNKNOWN, x -> x.reached(far));
        refuses(RefusalTest::calm, "count(" + far + ")", UNKNOWN, x -> x.count(far));
    }

    private static void manyCalls() {
        Due.about("An object is used for at most 512 calls");
        PartitionPlay x = new PartitionPlay(6);
        for (int i = 0; i < 128; i++) {
            Due.due("event", x.event(5, 0, 1199, 1), 0);
            Due.due("play(40)", x.play(40), 40);
            Due.due("sets(0)", x.sets(0), 0);
            Due.due("drop(0)", x.drop(0), 0);
        }
    }
}
