/** Promises 1 to 4, in ordinary use: a new object, behaviour, delay, tell. EdgesOfSettingsTest has their edges. */
public final class SettingsTest {
    public static void main(String[] args) {
        behaviourAnswersWhatItWas();
        aBoasterSaysThreeMore();
        oneThatKeepsStillSendsNothing();
        oneThatForgetsSaysNought();
        delayAnswersWhatItWas();
        delayIsOfOneDirection();
        tellCounts();
        Due.end();
    }

    private static void behaviourAnswersWhatItWas() {
        PartitionPlay x = new PartitionPlay(2);
        Due.due("behaviour(0, 1)", x.behaviour(0, 1), 0);
        Due.due("behaviour(0, 2)", x.behaviour(0, 2), 1);
        Due.due("behaviour(0, 3)", x.behaviour(0, 3), 2);
        Due.due("behaviour(0, 0)", x.behaviour(0, 0), 3);
        Due.due("behaviour(1, 0)", x.behaviour(1, 0), 0);
    }

    private static void aBoasterSaysThreeMore() {
        PartitionPlay x = new PartitionPlay(2);
        x.behaviour(0, 1);
        Due.due("a boaster's play", x.play(2), 2);
        Due.due("what it says at first", x.letter(0, 3), 4);
        Due.due("what it says then", x.letter(2, 3), 5);
        Due.due("what the other says", x.letter(1, 3), 1);
        Due.dueText("its true height", Face.heights(x, 1), "2,2");
    }

    private static void oneThatKeepsStillSendsNothing() {
        PartitionPlay x = new PartitionPlay(2);
        x.behaviour(0, 2);
        x.tell(0, 1);
        Due.due("still: play(5)", x.play(5), 2);
        Due.dueText("still: heights", Face.heights(x, 4), "2,1");
        Due.due("still: letters", x.count(3), 2);
        Due.due("still: sender", x.letter(0, 0), 1);
        Due.due("still: the reminder's sender", x.letter(1, 0), 1);
        Due.due("still: the reminder's turn", x.letter(1, 2), 4);
        Due.due("still: bytes(0)", x.bytes(0), 0);
        Due.due("still: bytes(1)", x.bytes(1), 8);
        Due.due("still: reached(1)", x.reached(1), 1);
    }

    private static void oneThatForgetsSaysNought() {
        PartitionPlay x = new PartitionPlay(2);
        x.behaviour(0, 3);
        x.tell(0, 5);
        Due.due("forgets: play(3)", x.play(3), 2);
        Due.dueText("forgets: heights", Face.heights(x, 2), "2,1");
        Due.due("forgets: letters", x.count(3), 3);
        Due.due("forgets: its first height", x.letter(0, 3), 0);
        Due.due("forgets: its next height", x.letter(2, 3), 0);
        Due.due("forgets: its rumours", x.letter(0, 4), 32);
        Due.due("forgets: reached(5)", x.reached(5), 2);
        Due.due("forgets: bytes(0)", x.bytes(0), 10);
        Due.due("forgets: bytes(1)", x.bytes(1), 4);
    }

    private static void delayAnswersWhatItWas() {
        PartitionPlay x = new PartitionPlay(6);
        Due.due("delay(5, 0, 5)", x.delay(5, 0, 5), 1);
        Due.due("delay(5, 0, 3)", x.delay(5, 0, 3), 5);
        Due.due("delay(0, 5, 2)", x.delay(0, 5, 2), 1);
        Due.due("delay(5, 0, 1)", x.delay(5, 0, 1), 3);
        Due.due("delay(0, 5, 1)", x.delay(0, 5, 1), 2);
    }

    private static void delayIsOfOneDirection() {
        PartitionPlay x = new PartitionPlay(2);
        x.delay(0, 1, 5);
        Due.due("delayed: play(7)", x.play(7), 3);
        Due.dueText("delayed: before it comes", Face.heights(x, 4), "2,1");
        Due.dueText("delayed: as it comes", Face.heights(x, 5), "2,2");
        Due.dueText("delayed: at the end", Face.heights(x, 6), "3,3");
        Due.due("delayed: letters", x.count(3), 8);
        Due.due("delayed: letter 0 comes", x.letter(0, 5), 5);
        Due.due("delayed: letter 1 comes", x.letter(1, 5), 1);
        Due.due("delayed: letter 3 comes behind the last turn", x.letter(3, 5), 9);
        Due.due("delayed: letter 3 is not taken in", x.letter(3, 6), 0);
        Due.due("delayed: taken in", x.count(5), 5);
        Due.due("delayed: gone", x.count(6), 0);
    }

    private static void tellCounts() {
        PartitionPlay x = new PartitionPlay(2);
        for (int rumour = 0; rumour < 8; rumour++) {
            Due.due("tell(1, " + rumour + ")", x.tell(1, rumour), rumour + 1);
            Due.due("tell(1, " + rumour + ") again", x.tell(1, rumour), rumour + 1);
        }
        Due.due("tell(0, 7)", x.tell(0, 7), 1);
        x.play(1);
        Due.due("letter(0, 4)", x.letter(0, 4), 128);
        Due.due("letter(1, 4)", x.letter(1, 4), 255);
        Due.due("reached(6)", x.reached(6), 1);
        x.play(2);
        Due.due("reached(6) a turn later", x.reached(6), 2);
        Due.due("what is heard is not told", x.tell(0, 7), 1);
    }
}
