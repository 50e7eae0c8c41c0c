/** Promises 15 to 17, in ordinary use: shrink, minimal, sets. EdgesOfShrinkTest has their edges. */
public final class ShrinkTest {
    private static final int NONE = -1, STATE = -4;

    public static void main(String[] args) {
        shrinkLeavesWhatIsNeeded();
        shrinkGoesFromTheLastToTheFirst();
        shrinkPlaysByTheNewSettings();
        minimalOrNot();
        aFailureWithoutEvents();
        setsOfLetters();
        setsBesideTheSchedule();
        theExampleOfTheReadme();
        Due.end();
    }

    private static PartitionPlay boaster() {
        PartitionPlay x = new PartitionPlay(2);
        x.behaviour(0, 1);
        return x;
    }

    private static void shrinkLeavesWhatIsNeeded() {
        PartitionPlay x = boaster();
        x.event(1, 0, 0, 0);
        x.event(4, 0, 1, 0);
        x.event(0, 39, 1, 0);
        x.event(4, 0, 2, 0);
        x.event(2, 3, 1, 0);
        x.play(4);
        Due.due("before: height(3, 1)", x.height(3, 1), 3);
        Due.due("before: minimal", x.minimal(), 0);
        Due.due("shrink", x.shrink(), 2);
        Due.dueText("what is left", Face.ofSchedule(x), "4,0,1,0;4,0,2,0;");
        Due.due("after: turns", x.count(2), 4);
        Due.due("after: fails", x.fails(), 2);
        Due.due("after: height(3, 1), without the crash", x.height(3, 1), 4);
        Due.due("after: holds(3)", x.holds(3), 0);
        Due.due("after: minimal", x.minimal(), 1);
        Due.due("shrink again", x.shrink(), 2);
    }

    private static void shrinkGoesFromTheLastToTheFirst() {
        PartitionPlay x = boaster();
        x.event(4, 0, 1, 0);
        x.event(4, 0, 2, 0);
        x.event(2, 1, 0, 0);
        x.play(3);
        Due.due("the crash goes first", x.shrink(), 2);
        Due.dueText("the losses are left", Face.ofSchedule(x), "4,0,1,0;4,0,2,0;");
        x = boaster();
        x.event(2, 1, 0, 0);
        x.event(4, 0, 1, 0);
        x.event(4, 0, 2, 0);
        x.play(3);
        Due.due("the losses go first", x.shrink(), 1);
        Due.dueText("the crash is left", Face.ofSchedule(x), "2,1,0,0;");
    }

    private static void shrinkPlaysByTheNewSettings() {
        PartitionPlay x = boaster();
        x.event(4, 0, 1, 0);
        x.event(4, 0, 2, 0);
        x.play(3);
        x.behaviour(0, 0);
        Due.due("made anew, it does not fail", x.shrink(), STATE);
        Due.due("minimal, made anew", x.minimal(), 0);
        Due.due("sets, made anew", x.sets(0), 0);
        Due.due("THE PLAY failed all the same", x.fails(), 2);
        x.play(3);
        x.behaviour(0, 1);
        Due.due("THE PLAY did not fail", x.fails(), NONE);
        Due.due("minimal, made anew", x.minimal(), 1);
        Due.due("sets, made anew", x.sets(0), 1);
        Due.due("made anew, it fails", x.shrink(), 2);
        Due.due("THE PLAY is the new one", x.fails(), 2);
    }

    private static void minimalOrNot() {
        PartitionPlay x = boaster();
        x.event(4, 0, 1, 0);
        Due.due("no play", x.minimal(), STATE);
        x.play(3);
        Due.due("it does not fail", x.minimal(), 0);
        x.event(4, 0, 2, 0);
        Due.due("each is needed", x.minimal(), 1);
        x.event(4, 0, 2, 0);
        Due.due("either of two is not needed", x.minimal(), 0);
        x.drop(1);
        Due.due("each is needed again", x.minimal(), 1);
        x.event(3, 0, 1, 0);
        Due.due("the last is not needed", x.minimal(), 0);
    }

    private static void aFailureWithoutEvents() {
        PartitionPlay x = boaster();
        x.delay(1, 0, 5);
        x.play(3);
        Due.due("fails", x.fails(), 2);
        Due.due("minimal", x.minimal(), 1);
        Due.due("shrink", x.shrink(), 0);
        Due.due("sets(0)", x.sets(0), 1);
        Due.due("sets(1)", x.sets(1), 1);
        Due.due("sets(2)", x.sets(2), 2);
    }

    /** It fails just where letters 1 and 2 are lost, and 0 is not; 3 and 4 are of no matter. */
    private static void setsOfLetters() {
        PartitionPlay x = boaster();
        x.play(3);
        int[] due = {0, 0, 0, 1, 2, 4};
        for (int k = 0; k <= 5; k++) {
            Due.due("sets(" + k + ")", x.sets(k), due[k]);
        }
    }

    private static void setsBesideTheSchedule() {
        PartitionPlay x = boaster();
        x.event(4, 0, 2, 0);
        x.play(3);
        Due.due("sets(1), letter 2 lost", x.sets(1), 0);
        Due.due("sets(2), letter 2 lost", x.sets(2), 1);
        Due.due("sets(3), letter 2 lost", x.sets(3), 2);
        Due.due("THE PLAY loses one", x.count(4), 1);
    }

    private static void theExampleOfTheReadme() {
        PartitionPlay x = boaster();
        x.event(4, 0, 1, 0);
        x.event(4, 0, 2, 0);
        x.event(1, 0, 0, 0);
        Due.due("README: play(3)", x.play(3), 3);
        Due.due("README: fails()", x.fails(), 2);
        Due.due("README: shrink()", x.shrink(), 2);
        Due.due("README: sets(2)", x.sets(2), 2);
    }
}
