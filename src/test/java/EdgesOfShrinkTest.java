/** The edges that promises 15 to 17 name, a method for each. */
public final class EdgesOfShrinkTest {
    private static final int NONE = -1, OUTSIDE = -3, STATE = -4;
    private static final int LEAST = Integer.MIN_VALUE, MOST = Integer.MAX_VALUE;
    private static final int PART = 0, HEAL = 1, CRASH = 2, LOSE = 4, DOUBLE = 5;

    public static void main(String[] args) {
        shrinkWithoutAPlay();
        shrinkOfOneThatDoesNotFail();
        shrinkMadeAnew();
        shrinkToNone();
        shrinkOfNone();
        shrinkOfWhatIsLeast();
        shrinkOfAFullSchedule();
        shrinkFromTheLast();
        shrinkWithoutThoseThatWent();
        shrinkOfAsManyTurns();
        shrinkMakesThePlayAnew();
        eventsBehindAShrink();
        minimalWithoutAPlay();
        minimalOfNoEvents();
        minimalOfOneThatDoesNotFail();
        minimalWhereOneIsTooMany();
        minimalOfAFullSchedule();
        minimalLeavesAll();
        setsOutside();
        setsWithoutAPlay();
        setsOfNoLetters();
        setsOfAllThatFail();
        setsOfOneLetter();
        setsOfLettersLostAnyhow();
        setsOfLettersThatAreNotSent();
        setsLeaveAll();
        Due.end();
    }

    /** Of three turns, it fails just where letters 1 and 2 are lost, and 0 is not. */
    private static PartitionPlay boaster() {
        PartitionPlay x = new PartitionPlay(2);
        x.behaviour(0, 1);
        return x;
    }

    private static PartitionPlay failing() {
        PartitionPlay x = boaster();
        x.event(LOSE, 0, 1, 0);
        x.event(LOSE, 0, 2, 0);
        return x;
    }

    private static void shrinkWithoutAPlay() {
        Due.about("15: STATE: there is none");
        PartitionPlay x = failing();
        Due.due("shrink()", x.shrink(), STATE);
        Due.due("count(1)", x.count(1), 2);
        Due.due("count(2)", x.count(2), 0);
        x.play(0);
        Due.due("shrink() behind a refused play", x.shrink(), STATE);
    }

    private static void shrinkOfOneThatDoesNotFail() {
        Due.about("15: STATE: that PLAY does not FAIL");
        PartitionPlay x = failing();
        x.event(HEAL, 0, 0, 0);
        x.play(2);
        String play = Face.ofPlay(x);
        Due.due("shrink()", x.shrink(), STATE);
        Due.dueText("THE PLAY", Face.ofPlay(x), play);
        Due.dueText("THE SCHEDULE", Face.ofSchedule(x), "4,0,1,0;4,0,2,0;1,0,0,0;");
    }

    private static void shrinkMadeAnew() {
        Due.about("15: that PLAY, made anew");
        PartitionPlay x = failing();
        x.play(3);
        x.drop(0);
        Due.due("THE PLAY failed", x.fails(), 2);
        Due.due("shrink() without an event", x.shrink(), STATE);
        Due.due("THE PLAY is as it was", x.fails(), 2);
        x.play(3);
        x.event(LOSE, 0, 1, 0);
        Due.due("THE PLAY did not fail", x.fails(), NONE);
        Due.due("shrink() with it again", x.shrink(), 2);
        Due.due("THE PLAY is that of these", x.fails(), 2);
    }

    private static PartitionPlay failsWithoutEvents() {
        PartitionPlay x = boaster();
        x.delay(1, 0, 5);
        return x;
    }

    private static void shrinkToNone() {
        Due.about("15: how many are left: none");
        PartitionPlay x = failsWithoutEvents();
        x.event(HEAL, 0, 0, 0);
        x.event(LOSE, 0, 900, 0);
        x.event(PART, 39, 1, 0);
        x.play(3);
        Due.due("shrink()", x.shrink(), 0);
        Due.due("count(1)", x.count(1), 0);
        Due.due("fails()", x.fails(), 2);
    }

    private static void shrinkOfNone() {
        Due.about("15: EVENTS of THE SCHEDULE go: there are none");
        PartitionPlay x = failsWithoutEvents();
        x.play(3);
        Due.due("shrink()", x.shrink(), 0);
        Due.due("fails()", x.fails(), 2);
        x = boaster();
        x.play(3);
        Due.due("shrink() of one that does not fail", x.shrink(), STATE);
    }

    private static void shrinkOfWhatIsLeast() {
        Due.about("15: how many are left: all");
        PartitionPlay x = failing();
        x.play(3);
        String play = Face.ofPlay(x);
        Due.due("shrink()", x.shrink(), 2);
        Due.due("shrink() again", x.shrink(), 2);
        Due.dueText("THE PLAY", Face.ofPlay(x), play);
        Due.dueText("THE SCHEDULE", Face.ofSchedule(x), "4,0,1,0;4,0,2,0;");
    }

    private static PartitionPlay fullAndFailing() {
        PartitionPlay x = boaster();
        x.event(LOSE, 0, 1, 0);
        for (int i = 0; i < 18; i++) {
            x.event(DOUBLE, 0, 1000 + i, 1);
        }
        x.event(LOSE, 0, 2, 0);
        return x;
    }

    private static void shrinkOfAFullSchedule() {
        Due.about("15: EVENTS of THE SCHEDULE go: of 20");
        PartitionPlay x = fullAndFailing();
        x.play(3);
        Due.due("count(1)", x.count(1), 20);
        Due.due("shrink()", x.shrink(), 2);
        Due.dueText("THE SCHEDULE", Face.ofSchedule(x), "4,0,1,0;4,0,2,0;");
        for (int number = 2; number < 20; number++) {
            Due.due("room again", x.event(HEAL, 0, 0, 0), number);
        }
    }

    private static void shrinkFromTheLast() {
        Due.about("15: from the last one to the first");
        PartitionPlay x = boaster();
        x.event(LOSE, 0, 2, 0);
        x.event(LOSE, 0, 1, 0);
        x.event(LOSE, 0, 2, 0);
        x.play(3);
        Due.due("shrink()", x.shrink(), 2);
        Due.dueText("the last one went", Face.ofSchedule(x), "4,0,2,0;4,0,1,0;");
    }

    private static void shrinkWithoutThoseThatWent() {
        Due.about("15: each without which (and those that went) a PLAY FAILS");
        PartitionPlay x = boaster();
        x.event(CRASH, 1, 0, 0);
        x.event(CRASH, 1, 0, 0);
        x.event(CRASH, 1, 0, 0);
        x.play(3);
        Due.due("shrink()", x.shrink(), 1);
        Due.dueText("one is left", Face.ofSchedule(x), "2,1,0,0;");
    }

    private static void shrinkOfAsManyTurns() {
        Due.about("15: a PLAY of as many TURNS as THE PLAY has");
        PartitionPlay x = boaster();
        x.event(CRASH, 1, 0, 0);
        x.event(CRASH, 5, 0, 0);
        x.play(3);
        Due.due("shrink() of 3", x.shrink(), 1);
        Due.dueText("the first is left", Face.ofSchedule(x), "2,1,0,0;");
        x = boaster();
        x.event(CRASH, 5, 0, 0);
        x.event(CRASH, 1, 0, 0);
        x.play(9);
        Due.due("shrink() of 9", x.shrink(), 1);
        Due.dueText("the later is enough", Face.ofSchedule(x), "2,5,0,0;");
        Due.due("count(2)", x.count(2), 9);
        Due.due("fails()", x.fails(), 6);
    }

    private static void shrinkMakesThePlayAnew() {
        Due.about("15: THE PLAY is then that of these");
        PartitionPlay x = failing();
        x.event(CRASH, 3, 1, 0);
        x.play(6);
        Due.due("height(3, 1)", x.height(3, 1), 3);
        Due.due("shrink()", x.shrink(), 2);
        String play = Face.ofPlay(x);
        Due.due("height(3, 1), without the crash", x.height(3, 1), 4);
        x.play(6);
        Due.dueText("THE PLAY", play, Face.ofPlay(x));
    }

    private static void eventsBehindAShrink() {
        Due.about("15: EVENTS of THE SCHEDULE go: those told later do not");
        PartitionPlay x = failing();
        for (int i = 0; i < 18; i++) {
            x.event(HEAL, i, 0, 0);
        }
        x.play(3);
        Due.due("shrink()", x.shrink(), 2);
        for (int number = 2; number < 20; number++) {
            x.event(DOUBLE, 0, 0, 1);
            x.play(3);
            Due.due("letter(0, 6) with " + number, x.letter(0, 6), number);
        }
    }

    private static void minimalWithoutAPlay() {
        Due.about("16: STATE: there is none");
        PartitionPlay x = failing();
        Due.due("minimal()", x.minimal(), STATE);
        x.play(41);
        Due.due("minimal() behind a refused play", x.minimal(), STATE);
        Due.due("count(2)", x.count(2), 0);
    }

    private static void minimalOfNoEvents() {
        Due.about("16: any one of the EVENTS: there are none");
        PartitionPlay x = failsWithoutEvents();
        x.play(3);
        Due.due("minimal() of one that fails", x.minimal(), 1);
        x.play(2);
        Due.due("minimal() of one that does not", x.minimal(), 0);
    }

    private static void minimalOfOneThatDoesNotFail() {
        Due.about("16: Whether a PLAY of as many TURNS FAILS");
        PartitionPlay x = failing();
        x.play(2);
        Due.due("minimal() of 2", x.minimal(), 0);
        x.play(3);
        Due.due("minimal() of 3", x.minimal(), 1);
    }

    private static void minimalWhereOneIsTooMany() {
        Due.about("16: and would not without any one of the EVENTS");
        int[][] events = {{4, 1}, {4, 2}, {1, 0}};
        for (int last = 0; last < 3; last++) {
            PartitionPlay x = boaster();
            for (int i = 1; i <= 3; i++) {
                int[] e = events[(last + i) % 3];
                x.event(e[0], 0, e[1], 0);
            }
            x.play(3);
            Due.due("minimal() of " + Face.ofSchedule(x), x.minimal(), 0);
        }
    }

    private static void minimalOfAFullSchedule() {
        Due.about("16: any one of the EVENTS: of 20");
        PartitionPlay x = fullAndFailing();
        x.play(3);
        Due.due("minimal()", x.minimal(), 0);
        x.shrink();
        Due.due("minimal() of what is left", x.minimal(), 1);
    }

    private static void minimalLeavesAll() {
        Due.about("16: THE PLAY stays");
        PartitionPlay x = failing();
        x.event(HEAL, 1, 0, 0);
        x.play(6);
        String play = Face.ofPlay(x);
        x.behaviour(1, 3);
        x.minimal();
        x.behaviour(1, 0);
        x.minimal();
        Due.dueText("THE PLAY", Face.ofPlay(x), play);
        Due.dueText("THE SCHEDULE", Face.ofSchedule(x), "4,0,1,0;4,0,2,0;1,1,0,0;");
        x.play(6);
        Due.dueText("made anew", Face.ofPlay(x), play);
    }

    private static void setsOutside() {
        Due.about("17: OUTSIDE: k 0 .. 5, also before STATE");
        PartitionPlay x = failing();
        for (int turns = 0; turns <= 3; turns += 3) {
            x.play(turns);
            for (int k : new int[] {-1, 6, 7, 32, -32, LEAST, MOST}) {
                Due.due("sets(" + k + ")", x.sets(k), OUTSIDE);
            }
        }
    }

    private static void setsWithoutAPlay() {
        Due.about("17: STATE");
        PartitionPlay x = failing();
        for (int k = 0; k <= 5; k++) {
            Due.due("sets(" + k + ")", x.sets(k), STATE);
        }
    }

    private static void setsOfNoLetters() {
        Due.about("17: sets of LETTERS 0 .. k - 1: k is 0");
        PartitionPlay x = failing();
        x.play(3);
        Due.due("sets(0) of one that fails", x.sets(0), 1);
        x.play(2);
        Due.due("sets(0) of one that does not", x.sets(0), 0);
    }

    /** What the boaster says from turn 9 to 12 is enough, whatever of the first letters was lost. */
    private static void setsOfAllThatFail() {
        Due.about("17: Of all sets: all of them");
        PartitionPlay x = boaster();
        x.event(CRASH, 13, 0, 0);
        x.play(20);
        for (int k = 0; k <= 5; k++) {
            Due.due("sets(" + k + ")", x.sets(k), 1 << k);
        }
    }

    private static void setsOfOneLetter() {
        Due.about("17: those are LOST, too: one, and the last of them");
        PartitionPlay x = boaster();
        x.event(LOSE, 0, 2, 0);
        x.play(3);
        int[] due = {0, 0, 1};
        for (int k = 0; k <= 2; k++) {
            Due.due("sets(" + k + ")", x.sets(k), due[k]);
        }
    }

    private static void setsOfLettersLostAnyhow() {
        Due.about("17: those are LOST, too: LETTERS that THE SCHEDULE loses");
        PartitionPlay x = failing();
        x.play(3);
        Due.due("sets(1)", x.sets(1), 1);
        Due.due("sets(2)", x.sets(2), 2);
        Due.due("sets(3)", x.sets(3), 4);
        Due.due("sets(5)", x.sets(5), 16);
    }

    private static void setsOfLettersThatAreNotSent() {
        Due.about("17: all sets of LETTERS 0 .. k - 1: of which the PLAY sends fewer");
        PartitionPlay x = failing();
        x.play(3);
        Due.due("count(3)", x.count(3), 4);
        Due.due("sets(4)", x.sets(4), 8);
        Due.due("sets(5)", x.sets(5), 16);
    }

    private static void setsLeaveAll() {
        Due.about("17: THE PLAY stays");
        PartitionPlay x = failing();
        x.play(6);
        String play = Face.ofPlay(x);
        for (int k = 0; k <= 5; k++) {
            x.sets(k);
        }
        Due.dueText("THE PLAY", Face.ofPlay(x), play);
        Due.dueText("THE SCHEDULE", Face.ofSchedule(x), "4,0,1,0;4,0,2,0;");
        x.play(6);
        Due.dueText("made anew", Face.ofPlay(x), play);
    }
}
