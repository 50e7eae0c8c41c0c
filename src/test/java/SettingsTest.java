/** Promises 1 to 4: a new object, behaviour, delay, tell. */
public final class SettingsTest {
    private static final int NONE = -1, UNKNOWN = -2, OUTSIDE = -3, STATE = -4;

    public static void main(String[] args) {
        nodesAreClamped();
        aNewObjectHasNothing();
        behaviourAnswersWhatItWas();
        behaviourRefuses();
        aBoasterSaysThreeMore();
        oneThatKeepsStillSendsNothing();
        oneThatForgetsSaysNought();
        delayAnswersWhatItWas();
        delayRefuses();
        delayIsOfOneDirection();
        tellCounts();
        tellRefuses();
        settingsLeaveThePlay();
        Due.end();
    }

    private static void nodesAreClamped() {
        int[][] givenAndDue = {
            {Integer.MIN_VALUE, 2}, {-1, 2}, {0, 2}, {1, 2}, {2, 2}, {3, 3}, {4, 4}, {5, 5}, {6, 6}, {7, 6}, {Integer.MAX_VALUE, 6}};
        for (int[] row : givenAndDue) {
            PartitionPlay x = new PartitionPlay(row[0]);
            Due.due("new " + row[0] + ": count(0)", x.count(0), row[1]);
            Due.due("the last node", x.behaviour(row[1] - 1, 0), 0);
            Due.due("one node more", x.behaviour(row[1], 0), UNKNOWN);
        }
    }

    private static void aNewObjectHasNothing() {
        PartitionPlay x = new PartitionPlay(3);
        for (int what = 1; what <= 6; what++) {
            Due.due("new: count(" + what + ")", x.count(what), 0);
        }
        Due.due("new: fails", x.fails(), STATE);
        Due.due("new: height", x.height(0, 0), UNKNOWN);
        Due.due("new: holds", x.holds(0), UNKNOWN);
        Due.due("new: letter", x.letter(0, 0), UNKNOWN);
        Due.due("new: reached", x.reached(0), STATE);
        Due.due("new: bytes", x.bytes(0), STATE);
        Due.due("new: shrink", x.shrink(), STATE);
        Due.due("new: minimal", x.minimal(), STATE);
        Due.due("new: sets", x.sets(0), STATE);
        Due.due("new: drop", x.drop(0), UNKNOWN);
        Due.due("new: told", x.told(0, 0), UNKNOWN);
        for (int node = 0; node < 3; node++) {
            Due.due("new: behaviour", x.behaviour(node, 0), 0);
            Due.due("new: delay", x.delay(node, (node + 1) % 3, 1), 1);
            Due.due("new: told to it", x.tell(node, 0), 1);
        }
    }

    private static void behaviourAnswersWhatItWas() {
        PartitionPlay x = new PartitionPlay(2);
        Due.due("behaviour(0, 1)", x.behaviour(0, 1), 0);
        Due.due("behaviour(0, 2)", x.behaviour(0, 2), 1);
        Due.due("behaviour(0, 3)", x.behaviour(0, 3), 2);
        Due.due("behaviour(0, 0)", x.behaviour(0, 0), 3);
        Due.due("behaviour(1, 0)", x.behaviour(1, 0), 0);
    }

    private static void behaviourRefuses() {
        PartitionPlay x = new PartitionPlay(4);
        x.behaviour(3, 2);
        Due.due("behaviour(-1, 0)", x.behaviour(-1, 0), UNKNOWN);
        Due.due("behaviour(4, 0)", x.behaviour(4, 0), UNKNOWN);
        Due.due("behaviour(4, 4)", x.behaviour(4, 4), UNKNOWN);
        Due.due("behaviour(3, 4)", x.behaviour(3, 4), OUTSIDE);
        Due.due("behaviour(3, -1)", x.behaviour(3, -1), OUTSIDE);
        Due.due("behaviour(3, 2)", x.behaviour(3, 2), 2);
    }

    private static void aBoasterSaysThreeMore() {
        PartitionPlay x = new PartitionPlay(2);
        x.behaviour(0, 1);
        Due.due("a boaster's play", x.play(2), 2);
        Due.due("what it says at first", x.letter(0, 3), 4);
        Due.due("what it says then", x.letter(2, 3), 5);
        Due.due("what the other says", x.letter(1, 3), 1);
        Due.dueText("its true height", Face.heights(x, 1), "2,2");
    }

    private static void oneThatKeepsStillSendsNothing() {
        PartitionPlay x = new PartitionPlay(2);
        x.behaviour(0, 2);
        x.tell(0, 1);
        Due.due("still: play(5)", x.play(5), 2);
        Due.dueText("still: heights", Face.heights(x, 4), "2,1");
        Due.due("still: letters", x.count(3), 2);
        Due.due("still: sender", x.letter(0, 0), 1);
        Due.due("still: the reminder's sender", x.letter(1, 0), 1);
        Due.due("still: the reminder's turn", x.letter(1, 2), 4);
        Due.due("still: bytes(0)", x.bytes(0), 0);
        Due.due("still: bytes(1)", x.bytes(1), 8);
        Due.due("still: reached(1)", x.reached(1), 1);
    }

    private static void oneThatForgetsSaysNought() {
        PartitionPlay x = new PartitionPlay(2);
        x.behaviour(0, 3);
        x.tell(0, 5);
        Due.due("forgets: play(3)", x.play(3), 2);
        Due.dueText("forgets: heights", Face.heights(x, 2), "2,1");
        Due.due("forgets: letters", x.count(3), 3);
        Due.due("forgets: its first height", x.letter(0, 3), 0);
        Due.due("forgets: its next height", x.letter(2, 3), 0);
        Due.due("forgets: its rumours", x.letter(0, 4), 32);
        Due.due("forgets: reached(5)", x.reached(5), 2);
        Due.due("forgets: bytes(0)", x.bytes(0), 10);
        Due.due("forgets: bytes(1)", x.bytes(1), 4);
    }

    private static void delayAnswersWhatItWas() {
        PartitionPlay x = new PartitionPlay(6);
        Due.due("delay(5, 0, 5)", x.delay(5, 0, 5), 1);
        Due.due("delay(5, 0, 3)", x.delay(5, 0, 3), 5);
        Due.due("delay(0, 5, 2)", x.delay(0, 5, 2), 1);
        Due.due("delay(5, 0, 1)", x.delay(5, 0, 1), 3);
        Due.due("delay(0, 5, 1)", x.delay(0, 5, 1), 2);
    }

    private static void delayRefuses() {
        PartitionPlay x = new PartitionPlay(3);
        x.delay(0, 1, 4);
        Due.due("delay(0, 0, 1)", x.delay(0, 0, 1), UNKNOWN);
        Due.due("delay(-1, 0, 1)", x.delay(-1, 0, 1), UNKNOWN);
        Due.due("delay(0, -1, 1)", x.delay(0, -1, 1), UNKNOWN);
        Due.due("delay(3, 0, 1)", x.delay(3, 0, 1), UNKNOWN);
        Due.due("delay(0, 3, 1)", x.delay(0, 3, 1), UNKNOWN);
        Due.due("delay(7, 7, 9)", x.delay(7, 7, 9), UNKNOWN);
        Due.due("delay(2, 2, 0)", x.delay(2, 2, 0), UNKNOWN);
        Due.due("delay(0, 1, 0)", x.delay(0, 1, 0), OUTSIDE);
        Due.due("delay(0, 1, 6)", x.delay(0, 1, 6), OUTSIDE);
        Due.due("delay(0, 1, 1)", x.delay(0, 1, 1), 4);
    }

    private static void delayIsOfOneDirection() {
        PartitionPlay x = new PartitionPlay(2);
        x.delay(0, 1, 5);
        Due.due("delayed: play(7)", x.play(7), 3);
        Due.dueText("delayed: before it comes", Face.heights(x, 4), "2,1");
        Due.dueText("delayed: as it comes", Face.heights(x, 5), "2,2");
        Due.dueText("delayed: at the end", Face.heights(x, 6), "3,3");
        Due.due("delayed: letters", x.count(3), 8);
        Due.due("delayed: letter 0 comes", x.letter(0, 5), 5);
        Due.due("delayed: letter 1 comes", x.letter(1, 5), 1);
        Due.due("delayed: letter 3 comes behind the last turn", x.letter(3, 5), 9);
        Due.due("delayed: letter 3 is not taken in", x.letter(3, 6), 0);
        Due.due("delayed: taken in", x.count(5), 5);
        Due.due("delayed: gone", x.count(6), 0);
    }

    private static void tellCounts() {
        PartitionPlay x = new PartitionPlay(2);
        for (int rumour = 0; rumour < 8; rumour++) {
            Due.due("tell(1, " + rumour + ")", x.tell(1, rumour), rumour + 1);
            Due.due("tell(1, " + rumour + ") again", x.tell(1, rumour), rumour + 1);
        }
        Due.due("tell(0, 7)", x.tell(0, 7), 1);
        x.play(1);
        Due.due("letter(0, 4)", x.letter(0, 4), 128);
        Due.due("letter(1, 4)", x.letter(1, 4), 255);
        Due.due("reached(6)", x.reached(6), 1);
        x.play(2);
        Due.due("reached(6) a turn later", x.reached(6), 2);
        Due.due("what is heard is not told", x.tell(0, 7), 1);
    }

    private static void tellRefuses() {
        PartitionPlay x = new PartitionPlay(5);
        Due.due("tell(-1, 0)", x.tell(-1, 0), UNKNOWN);
        Due.due("tell(5, 0)", x.tell(5, 0), UNKNOWN);
        Due.due("tell(0, -1)", x.tell(0, -1), UNKNOWN);
        Due.due("tell(0, 8)", x.tell(0, 8), UNKNOWN);
        Due.due("tell(0, 32)", x.tell(0, 32), UNKNOWN);
        Due.due("tell(0, 0)", x.tell(0, 0), 1);
    }

    private static void settingsLeaveThePlay() {
        PartitionPlay x = new PartitionPlay(3);
        x.tell(0, 2);
        x.play(9);
        String before = Face.ofPlay(x);
        x.behaviour(0, 1);
        x.behaviour(1, 2);
        x.delay(0, 1, 5);
        x.tell(1, 4);
        x.event(0, 1, 1, 0);
        x.event(4, 0, 0, 0);
        Due.dueText("THE PLAY behind new settings", Face.ofPlay(x), before);
        x.drop(1);
        Due.due("play(0)", x.play(0), OUTSIDE);
        Due.due("play(41)", x.play(41), OUTSIDE);
        Due.dueText("THE PLAY behind refusals", Face.ofPlay(x), before);
        Due.due("THE PLAY does not fail", x.fails(), NONE);
    }
}
