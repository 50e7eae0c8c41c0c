/**
 * Promises 8 to 14 and 18, in ordinary use: play, height, holds, fails, letter, reached, bytes, count.
 * EdgesOfPlayTest has their edges, and EdgesOfTurnsTest those of a turn's steps and of the rule.
 */
public final class PlayTest {
    private static final int NONE = -1, UNKNOWN = -2;

    public static void main(String[] args) {
        theLargestPlay();
        nobodyIsUp();
        aPartAndItsHealing();
        aCrashAndARise();
        aRiseForgetsWhatWasShown();
        eventsOfATurnGoByNumber();
        lettersLost();
        lettersDoubled();
        lettersLate();
        anEventMayNameNoLetter();
        failureAndRecovery();
        theRuleIsOfHonestNodes();
        rumoursAndBytes();
        Due.end();
    }

    private static void theLargestPlay() {
        PartitionPlay x = new PartitionPlay(6);
        for (int i = 0; i < 19; i++) {
            x.event(5, 0, 1000, 1 + i % 5);
        }
        x.event(6, 0, 1199, 5);
        Due.due("play(40)", x.play(40), 40);
        Due.due("letters", x.count(3), 1200);
        Due.due("the last one's sender", x.letter(1199, 0), 5);
        Due.due("the last one's receiver", x.letter(1199, 1), 4);
        Due.due("the last one's turn", x.letter(1199, 2), 39);
        Due.due("the last one's height", x.letter(1199, 3), 40);
        Due.due("the last one comes", x.letter(1199, 5), 45);
        Due.due("one more", x.letter(1200, 0), UNKNOWN);
        Due.due("letter 1000's turn", x.letter(1000, 2), 33);
        Due.due("letter 1000 is taken in", x.letter(1000, 6), 20);
        Due.due("taken in", x.count(5), 1170 + 19);
    }

    private static void nobodyIsUp() {
        PartitionPlay x = new PartitionPlay(2);
        x.event(2, 0, 0, 0);
        x.event(2, 0, 1, 0);
        Due.due("nobody is up: play(5)", x.play(5), 0);
        Due.due("nobody is up: letters", x.count(3), 0);
        Due.due("nobody is up: holds", x.holds(4), 1);
        Due.due("nobody is up: letter(0, 0)", x.letter(0, 0), UNKNOWN);
        Due.due("nobody is up: sets(5)", x.sets(5), 0);
        x.event(3, 4, 1, 0);
        x.play(5);
        Due.dueText("one rises", Face.heights(x, 4), "0,1");
    }

    private static void aPartAndItsHealing() {
        for (int set : new int[] {1, 6}) {
            PartitionPlay x = new PartitionPlay(3);
            x.event(1, 3, 0, 0);
            x.event(0, 1, set, 0);
            Due.due("parted: play(4)", x.play(4), 4);
            Due.dueText("parted: turn 1", Face.heights(x, 1), "1,2,2");
            Due.dueText("parted: turn 2", Face.heights(x, 2), "1,3,3");
            Due.dueText("healed: turn 3", Face.heights(x, 3), "2,4,4");
            Due.due("parted: holds", x.holds(3), 1);
            Due.due("parted: gone", x.count(6), 6);
            Due.due("parted: taken in", x.count(5), 8);
            Due.due("parted: letter 0 is gone", x.letter(0, 6), 0);
            Due.due("parted: letter 0 came", x.letter(0, 5), 1);
            Due.due("parted: letter 3 is taken in", x.letter(3, 6), 1);
            Due.due("parted: none is lost", x.count(4), 0);
        }
    }

    private static void aCrashAndARise() {
        PartitionPlay x = new PartitionPlay(2);
        x.tell(0, 0);
        x.event(2, 1, 0, 0);
        x.event(3, 2, 0, 0);
        Due.due("risen: play(4)", x.play(4), 3);
        Due.dueText("down", Face.heights(x, 1), "1,2");
        Due.dueText("risen", Face.heights(x, 2), "2,2");
        Due.dueText("at the end", Face.heights(x, 3), "3,3");
        Due.due("gone", x.count(6), 1);
        Due.due("what one that is down sent comes", x.letter(0, 6), 1);
        Due.due("what is to one that is down is gone", x.letter(1, 6), 0);
        Due.due("taken in", x.count(5), 3);
        Due.due("letters", x.count(3), 6);
        Due.due("its rumours stay", x.letter(3, 4), 1);
        x.drop(1);
        x.play(9);
        Due.due("one that is down sends no reminder", lastSender(x), 1);
        Due.dueText("one that is down stays", Face.heights(x, 8), "1,2");
    }

    private static int lastSender(PartitionPlay x) {
        return x.letter(x.count(3) - 1, 0);
    }

    /** Letter 3 is lost, so that node 0 has at turn 2 only what the boaster showed it at turn 1. */
    private static PartitionPlay boastedTo() {
        PartitionPlay x = new PartitionPlay(2);
        x.behaviour(1, 1);
        x.event(4, 0, 3, 0);
        return x;
    }

    private static void aRiseForgetsWhatWasShown() {
        PartitionPlay x = boastedTo();
        x.play(3);
        Due.due("it was shown enough", x.height(2, 0), 3);
        x.event(3, 2, 0, 0);
        x.play(3);
        Due.due("one that was up rises in vain", x.height(2, 0), 3);
        x.drop(1);
        x.event(2, 2, 0, 0);
        x.event(3, 2, 0, 0);
        x.play(3);
        Due.due("one that was down was shown nothing", x.height(2, 0), 2);
    }

    private static void eventsOfATurnGoByNumber() {
        PartitionPlay x = new PartitionPlay(2);
        x.event(3, 1, 0, 0);
        x.event(2, 1, 0, 0);
        x.play(3);
        Due.due("rises, then crashes: gone", x.count(6), 2);
        x = new PartitionPlay(2);
        x.event(2, 1, 0, 0);
        x.event(3, 1, 0, 0);
        x.play(3);
        Due.due("crashes, then rises: gone", x.count(6), 0);
        x = new PartitionPlay(2);
        x.event(1, 1, 0, 0);
        x.event(0, 1, 1, 0);
        x.play(2);
        Due.due("heals, then parts: gone", x.count(6), 2);
        x.drop(0);
        x.event(1, 1, 0, 0);
        x.play(2);
        Due.due("parts, then heals: gone", x.count(6), 0);
    }

    private static void lettersLost() {
        PartitionPlay x = new PartitionPlay(2);
        x.event(4, 0, 0, 0);
        x.event(4, 0, 0, 0);
        x.event(5, 0, 0, 1);
        x.event(6, 0, 0, 1);
        x.play(4);
        Due.due("lost: does not come", x.letter(0, 5), NONE);
        Due.due("lost: not taken in", x.letter(0, 6), 0);
        Due.due("lost: one", x.count(4), 1);
        Due.due("lost: not gone", x.count(6), 0);
        Due.dueText("lost: heights", Face.heights(x, 1), "2,1");
        Due.due("lost: its bytes were sent", x.bytes(0), 4 * sentBy(x, 0));
    }

    private static int sentBy(PartitionPlay x, int node) {
        int sent = 0;
        for (int k = 0; k < x.count(3); k++) {
            sent += x.letter(k, 0) == node ? 1 : 0;
        }
        return sent;
    }

    private static void lettersDoubled() {
        PartitionPlay x = new PartitionPlay(2);
        x.event(5, 0, 0, 1);
        x.event(5, 0, 0, 3);
        int[] takenByTurns = {0, 0, 1, 2, 2, 3, 3};
        for (int turns = 1; turns <= 6; turns++) {
            x.play(turns);
            Due.due("doubled twice, " + turns + " turns", x.letter(0, 6), takenByTurns[turns]);
            Due.due("doubled twice, comes first", x.letter(0, 5), 1);
            Due.due("doubled twice, taken in of all", x.count(5), 2 * (turns - 1) + Math.max(0, takenByTurns[turns] - 1));
        }
        x.event(0, 2, 1, 0);
        x.event(1, 3, 0, 0);
        x.play(5);
        Due.due("one coming of three is gone", x.letter(0, 6), 2);
    }

    private static void lettersLate() {
        PartitionPlay x = new PartitionPlay(2);
        x.event(6, 0, 0, 2);
        x.event(6, 0, 0, 5);
        x.event(5, 0, 0, 4);
        x.delay(0, 1, 3);
        x.play(10);
        Due.due("late: not yet", x.letter(0, 6), 0);
        Due.due("late: comes first", x.letter(0, 5), 10);
        x.play(11);
        Due.due("late: once", x.letter(0, 6), 1);
        x.play(14);
        Due.due("late: still once", x.letter(0, 6), 1);
        x.play(15);
        Due.due("late: both times", x.letter(0, 6), 2);
    }

    private static void anEventMayNameNoLetter() {
        PartitionPlay x = new PartitionPlay(2);
        x.play(40);
        String before = Face.ofPlay(x);
        x.event(4, 0, 80, 0);
        x.event(4, 0, 1199, 0);
        x.event(5, 0, 81, 1);
        x.event(6, 0, 82, 1);
        x.play(40);
        Due.dueText("no such letter is sent", Face.ofPlay(x), before);
    }

    /** Node 1 runs ahead of node 0, which boasts, behind turn 2. */
    private static PartitionPlay failing() {
        PartitionPlay x = new PartitionPlay(2);
        x.behaviour(0, 1);
        x.event(4, 0, 1, 0);
        x.event(4, 0, 2, 0);
        return x;
    }

    private static void failureAndRecovery() {
        PartitionPlay x = failing();
        Due.due("failing: play(2)", x.play(2), 2);
        Due.due("failing: not yet", x.fails(), NONE);
        Due.due("failing: play(5)", x.play(5), 5);
        Due.due("failing: fails", x.fails(), 2);
        Due.dueText("failing: heights", Face.heights(x, 2), "1,3");
        int[] held = {1, 1, 0, 0, 0};
        for (int turn = 0; turn < 5; turn++) {
            Due.due("failing: holds(" + turn + ")", x.holds(turn), held[turn]);
        }
        x.event(2, 3, 1, 0);
        Due.due("recovering: play(4)", x.play(4), 3);
        Due.due("recovering: fails", x.fails(), 2);
        Due.due("recovering: holds(2)", x.holds(2), 0);
        Due.due("recovering: holds(3)", x.holds(3), 1);
    }

    private static void theRuleIsOfHonestNodes() {
        for (int kind = 1; kind <= 3; kind++) {
            PartitionPlay x = failing();
            x.behaviour(1, kind);
            x.play(3);
            Due.due("node 1 grows all the same", x.height(2, 1), 3);
            Due.due("none is honest: holds", x.holds(2), 1);
            Due.due("none is honest: fails", x.fails(), NONE);
        }
    }

    private static void rumoursAndBytes() {
        PartitionPlay x = new PartitionPlay(3);
        x.tell(0, 0);
        x.tell(0, 7);
        x.tell(1, 3);
        x.play(1);
        Due.due("at first: reached(0)", x.reached(0), 1);
        Due.due("at first: bytes(0)", x.bytes(0), 12);
        Due.due("at first: bytes(1)", x.bytes(1), 10);
        Due.due("at first: bytes(2)", x.bytes(2), 8);
        x.event(0, 1, 4, 0);
        x.play(2);
        Due.due("parted: reached(0)", x.reached(0), 2);
        Due.due("parted: reached(3)", x.reached(3), 2);
        Due.due("parted: reached(1)", x.reached(1), 0);
        Due.due("parted: the rumours of letter 6", x.letter(6, 4), 1 + 8 + 128);
        Due.due("parted: bytes(0)", x.bytes(0), 12 + 14);
        Due.due("parted: bytes(2)", x.bytes(2), 8);
    }
}
