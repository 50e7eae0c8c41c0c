/** The edges that promises 8 to 14 and 18 name, a method for each. */
public final class EdgesOfPlayTest {
    private static final int NONE = -1, UNKNOWN = -2, OUTSIDE = -3, STATE = -4;
    private static final int LEAST = Integer.MIN_VALUE, MOST = Integer.MAX_VALUE;
    /** Six times this is 2 more than 2 to the power of 32. */
    private static final int WRAPS = 715827883;
    private static final int CRASH = 2, LOSE = 4, DOUBLE = 5, LATE = 6, PART = 0;

    public static void main(String[] args) {
        playOutside();
        playOutsideLeavesThePlay();
        playOfOneTurn();
        playOfFortyTurns();
        aPlayWhereNobodyIsUp();
        aShorterPlayHidesTheLongerOne();
        thePlayStaysUntilTheNext();
        heightOfNoTurn();
        heightOfNoNode();
        heightWithoutAPlay();
        heightAtTheEnds();
        holdsOfNoTurn();
        holdsAtTheEnds();
        failsAtNone();
        failsWithoutAPlay();
        failsAtTheLastTurn();
        letterOfNoNumber();
        letterAnotherWhat();
        letterWithoutAPlayOrLetters();
        letterThatIsLost();
        letterBehindTheLastTurn();
        letterAtTheLastTurn();
        letterThatIsGone();
        letterTakenInTwice();
        reachedNoRumour();
        reachedWithoutAPlay();
        reachedByNoneAndByAll();
        bytesOfNoNode();
        bytesWithoutAPlay();
        bytesOfLettersThatDoNotCome();
        bytesAtTheEnds();
        countAnotherWhat();
        countWithoutAPlay();
        countOfTheFullest();
        countOfTheMostComings();
        Due.end();
    }

    private static void playOutside() {
        Due.about("8: OUTSIDE: T is not 1 .. 40");
        PartitionPlay x = new PartitionPlay(2);
        for (int turns : new int[] {0, -1, 41, 42, 256, LEAST, MOST}) {
            Due.due("play(" + turns + ")", x.play(turns), OUTSIDE);
            Due.due("count(2)", x.count(2), 0);
            Due.due("fails()", x.fails(), STATE);
        }
    }

    private static void playOutsideLeavesThePlay() {
        Due.about("8: Refused, and nothing changes: THE PLAY");
        PartitionPlay x = new PartitionPlay(2);
        x.play(6);
        String before = Face.ofPlay(x);
        x.tell(0, 0);
        for (int turns : new int[] {0, 41, LEAST, MOST}) {
            Due.due("play(" + turns + ")", x.play(turns), OUTSIDE);
            Due.dueText("THE PLAY", Face.ofPlay(x), before);
        }
    }

    private static void playOfOneTurn() {
        Due.about("8: T is 1");
        PartitionPlay x = new PartitionPlay(6);
        Due.due("play(1)", x.play(1), 1);
        Due.due("count(2)", x.count(2), 1);
        Due.due("count(3)", x.count(3), 30);
        Due.due("count(5)", x.count(5), 0);
    }

    private static void playOfFortyTurns() {
        Due.about("8: T is 40");
        PartitionPlay x = new PartitionPlay(6);
        Due.due("play(40)", x.play(40), 40);
        Due.due("count(2)", x.count(2), 40);
        Due.due("count(3)", x.count(3), 1200);
        Due.due("count(5)", x.count(5), 1170);
    }

    private static void aPlayWhereNobodyIsUp() {
        Due.about("8: the greatest HEIGHT: 0");
        PartitionPlay x = new PartitionPlay(2);
        x.event(CRASH, 0, 0, 0);
        x.event(CRASH, 0, 1, 0);
        Due.due("play(40)", x.play(40), 0);
        Due.due("count(2)", x.count(2), 40);
        Due.due("count(3)", x.count(3), 0);
        Due.due("fails()", x.fails(), NONE);
    }

    private static void aShorterPlayHidesTheLongerOne() {
        Due.about("8: It is THE PLAY until the next one: a shorter one");
        PartitionPlay x = new PartitionPlay(3);
        x.play(40);
        Due.due("play(2)", x.play(2), 2);
        Due.due("height(2, 0)", x.height(2, 0), UNKNOWN);
        Due.due("holds(2)", x.holds(2), UNKNOWN);
        Due.due("letter(11, 0)", x.letter(11, 0), 2);
        Due.due("letter(12, 0)", x.letter(12, 0), UNKNOWN);
        Due.due("bytes(0)", x.bytes(0), 16);
        Due.due("count(5)", x.count(5), 6);
    }

    private static void thePlayStaysUntilTheNext() {
        Due.about("8: It is THE PLAY until the next one: settings and EVENTS");
        PartitionPlay x = new PartitionPlay(3);
        x.event(LOSE, 0, 4, 0);
        x.tell(2, 2);
        x.play(9);
        String before = Face.ofPlay(x);
        x.behaviour(0, 1);
        x.behaviour(1, 2);
        x.behaviour(2, 3);
        x.delay(0, 1, 5);
        x.tell(1, 2);
        x.event(CRASH, 1, 0, 0);
        x.event(LOSE, 0, 0, 0);
        x.drop(0);
        Due.dueText("THE PLAY", Face.ofPlay(x), before);
    }

    private static void heightOfNoTurn() {
        Due.about("9: UNKNOWN: no such TURN");
        PartitionPlay x = new PartitionPlay(3);
        x.play(5);
        for (int turn : new int[] {-1, 5, 6, 39, 40, WRAPS, LEAST, MOST}) {
            Due.due("height(" + turn + ", 0)", x.height(turn, 0), UNKNOWN);
        }
    }

    private static void heightOfNoNode() {
        Due.about("9: UNKNOWN: no such NODE");
        PartitionPlay x = new PartitionPlay(3);
        x.play(5);
        for (int node : new int[] {-1, 3, 5, 6, -6, LEAST, MOST}) {
            Due.due("height(0, " + node + ")", x.height(0, node), UNKNOWN);
            Due.due("height(1, " + node + ")", x.height(1, node), UNKNOWN);
        }
    }

    private static void heightWithoutAPlay() {
        Due.about("9: UNKNOWN: also, there is none");
        PartitionPlay x = new PartitionPlay(3);
        for (int turn = -1; turn <= 40; turn++) {
            Due.due("height(" + turn + ", 0)", x.height(turn, 0), UNKNOWN);
        }
    }

    private static void heightAtTheEnds() {
        Due.about("9: A NODE's HEIGHT behind a TURN: the first and the last");
        PartitionPlay x = new PartitionPlay(6);
        x.play(40);
        for (int node : new int[] {0, 5}) {
            Due.due("height(0, " + node + ")", x.height(0, node), 1);
            Due.due("height(39, " + node + ")", x.height(39, node), 40);
        }
    }

    private static void holdsOfNoTurn() {
        Due.about("10: UNKNOWN");
        PartitionPlay x = new PartitionPlay(3);
        Due.due("holds(0) of none", x.holds(0), UNKNOWN);
        x.play(5);
        for (int turn : new int[] {-1, 5, 39, 40, LEAST, MOST}) {
            Due.due("holds(" + turn + ")", x.holds(turn), UNKNOWN);
        }
    }

    private static void holdsAtTheEnds() {
        Due.about("10: 1, 0: behind the first and the last TURN");
        PartitionPlay x = failing();
        x.play(3);
        Due.due("holds(0)", x.holds(0), 1);
        Due.due("holds(2)", x.holds(2), 0);
        x = new PartitionPlay(2);
        x.play(40);
        Due.due("holds(39)", x.holds(39), 1);
    }

    /** Node 0 boasts and crashes, and node 1 is two above it behind turn 2. */
    private static PartitionPlay failing() {
        PartitionPlay x = new PartitionPlay(2);
        x.behaviour(0, 1);
        x.event(CRASH, 1, 0, 0);
        return x;
    }

    private static void failsAtNone() {
        Due.about("11: NONE: at none");
        PartitionPlay x = new PartitionPlay(2);
        x.play(40);
        Due.due("fails()", x.fails(), NONE);
        x = failing();
        x.play(3);
        x.drop(0);
        x.play(3);
        Due.due("fails() behind one that did", x.fails(), NONE);
    }

    private static void failsWithoutAPlay() {
        Due.about("11: STATE: there is none");
        PartitionPlay x = failing();
        Due.due("fails()", x.fails(), STATE);
        x.play(41);
        Due.due("fails() behind a refused play", x.fails(), STATE);
    }

    private static void failsAtTheLastTurn() {
        Due.about("11: The TURN at which THE PLAY FAILS: the last");
        PartitionPlay x = failing();
        x.play(2);
        Due.due("fails() of 2", x.fails(), NONE);
        x.play(3);
        Due.due("fails() of 3", x.fails(), 2);
        x = new PartitionPlay(2);
        x.behaviour(0, 1);
        x.event(CRASH, 38, 0, 0);
        x.play(39);
        Due.due("fails() of 39", x.fails(), NONE);
        x.play(40);
        Due.due("fails() of 40", x.fails(), 39);
    }

    private static void letterOfNoNumber() {
        Due.about("12: UNKNOWN: no such LETTER");
        PartitionPlay x = new PartitionPlay(3);
        x.play(5);
        for (int k : new int[] {-1, 30, 31, 1199, 1200, LEAST, MOST}) {
            for (int what = -1; what <= 7; what++) {
                Due.due("letter(" + k + ", " + what + ")", x.letter(k, what), UNKNOWN);
            }
        }
        Due.due("letter(29, 0)", x.letter(29, 0), 2);
        x = new PartitionPlay(6);
        x.play(40);
        Due.due("letter(1199, 1)", x.letter(1199, 1), 4);
        Due.due("letter(1200, 1)", x.letter(1200, 1), UNKNOWN);
    }

    private static void letterAnotherWhat() {
        Due.about("12: UNKNOWN: another what");
        PartitionPlay x = new PartitionPlay(3);
        x.play(5);
        for (int what : new int[] {-1, 7, 8, 256, LEAST, MOST}) {
            Due.due("letter(0, " + what + ")", x.letter(0, what), UNKNOWN);
        }
    }

    private static void letterWithoutAPlayOrLetters() {
        Due.about("12: UNKNOWN: there are none");
        PartitionPlay x = new PartitionPlay(2);
        Due.due("letter(0, 0) of no play", x.letter(0, 0), UNKNOWN);
        x.behaviour(0, 2);
        x.behaviour(1, 2);
        x.play(40);
        Due.due("letter(0, 0) of a still play", x.letter(0, 0), UNKNOWN);
    }

    private static void letterThatIsLost() {
        Due.about("12: 5 (NONE: it is LOST), 6 (neither LOST)");
        PartitionPlay x = new PartitionPlay(6);
        x.event(LOSE, 0, 0, 0);
        x.event(LOSE, 0, 1199, 0);
        x.play(40);
        for (int k : new int[] {0, 1199}) {
            Due.due("letter(" + k + ", 5)", x.letter(k, 5), NONE);
            Due.due("letter(" + k + ", 6)", x.letter(k, 6), 0);
        }
        Due.due("letter(1, 5)", x.letter(1, 5), 1);
        Due.due("letter(1198, 5)", x.letter(1198, 5), 40);
        Due.due("lost", x.count(4), 2);
    }

    private static void letterBehindTheLastTurn() {
        Due.about("12: 5 (it may be behind the last TURN), 6 (in THE PLAY's TURNS)");
        PartitionPlay x = new PartitionPlay(6);
        x.delay(5, 4, 5);
        x.event(LATE, 0, 1199, 5);
        x.event(DOUBLE, 0, 1199, 5);
        x.play(40);
        Due.due("letter(1199, 5)", x.letter(1199, 5), 49);
        Due.due("letter(1199, 6)", x.letter(1199, 6), 0);
        Due.due("letter(1198, 5)", x.letter(1198, 5), 40);
        Due.due("gone", x.count(6), 0);
        x.play(1);
        Due.due("of one turn: letter(0, 5)", x.letter(0, 5), 1);
        Due.due("of one turn: letter(0, 6)", x.letter(0, 6), 0);
    }

    private static void letterAtTheLastTurn() {
        Due.about("12: 6 (in THE PLAY's TURNS): the last of them");
        PartitionPlay x = new PartitionPlay(2);
        for (int turns = 2; turns <= 40; turns++) {
            x.play(turns);
            Due.due("the last but one turn's letter", x.letter(2 * turns - 4, 6), 1);
            Due.due("the last turn's letter", x.letter(2 * turns - 2, 6), 0);
        }
    }

    private static void letterThatIsGone() {
        Due.about("12: 6 (nor gone)");
        PartitionPlay x = new PartitionPlay(2);
        x.event(PART, 1, 1, 0);
        x.play(2);
        Due.due("letter(0, 5)", x.letter(0, 5), 1);
        Due.due("letter(0, 6)", x.letter(0, 6), 0);
        Due.due("gone", x.count(6), 2);
    }

    private static void letterTakenInTwice() {
        Due.about("12: 6 how often it was taken in");
        PartitionPlay x = new PartitionPlay(2);
        x.event(DOUBLE, 0, 1, 5);
        x.play(6);
        Due.due("letter(1, 6) of 6", x.letter(1, 6), 1);
        x.play(7);
        Due.due("letter(1, 6) of 7", x.letter(1, 6), 2);
        Due.due("letter(1, 5)", x.letter(1, 5), 1);
    }

    private static void reachedNoRumour() {
        Due.about("13: UNKNOWN, also before STATE");
        PartitionPlay x = new PartitionPlay(2);
        x.tell(0, 0);
        for (int rumour : new int[] {-1, 8, 32, LEAST, MOST}) {
            Due.due("reached(" + rumour + ") of no play", x.reached(rumour), UNKNOWN);
        }
        x.play(2);
        for (int rumour : new int[] {-1, 8, 32, LEAST, MOST}) {
            Due.due("reached(" + rumour + ")", x.reached(rumour), UNKNOWN);
        }
    }

    private static void reachedWithoutAPlay() {
        Due.about("13: STATE");
        PartitionPlay x = new PartitionPlay(2);
        for (int rumour = 0; rumour < 8; rumour++) {
            x.tell(1, rumour);
            Due.due("reached(" + rumour + ")", x.reached(rumour), STATE);
        }
    }

    private static void reachedByNoneAndByAll() {
        Due.about("13: How many NODES know a RUMOUR: none, all");
        PartitionPlay x = new PartitionPlay(6);
        x.tell(5, 0);
        x.tell(0, 7);
        x.event(CRASH, 2, 1, 0);
        x.play(1);
        Due.due("reached(0) of one turn", x.reached(0), 1);
        x.play(2);
        Due.due("reached(0)", x.reached(0), 6);
        Due.due("reached(7)", x.reached(7), 6);
        Due.due("reached(3)", x.reached(3), 0);
        x.play(40);
        Due.due("reached(0), also by one that is down", x.reached(0), 6);
    }

    private static void bytesOfNoNode() {
        Due.about("14: UNKNOWN, also before STATE");
        PartitionPlay x = new PartitionPlay(3);
        for (int node : new int[] {-1, 3, 6, LEAST, MOST}) {
            Due.due("bytes(" + node + ") of no play", x.bytes(node), UNKNOWN);
        }
        x.play(2);
        for (int node : new int[] {-1, 3, 6, LEAST, MOST}) {
            Due.due("bytes(" + node + ")", x.bytes(node), UNKNOWN);
        }
    }

    private static void bytesWithoutAPlay() {
        Due.about("14: STATE");
        PartitionPlay x = new PartitionPlay(3);
        for (int node = 0; node < 3; node++) {
            Due.due("bytes(" + node + ")", x.bytes(node), STATE);
        }
    }

    private static void bytesOfLettersThatDoNotCome() {
        Due.about("14: Bytes that a NODE sent: LOST, gone, and behind the last TURN");
        PartitionPlay x = new PartitionPlay(2);
        x.event(LOSE, 0, 0, 0);
        x.event(DOUBLE, 0, 1, 1);
        x.play(1);
        Due.due("bytes(0)", x.bytes(0), 4);
        Due.due("bytes(1)", x.bytes(1), 4);
        x.event(PART, 1, 1, 0);
        x.play(2);
        Due.due("bytes(0), parted", x.bytes(0), 4);
    }

    private static void bytesAtTheEnds() {
        Due.about("14: 4 a LETTER, and 1 for each RUMOUR in it: none, all");
        PartitionPlay x = new PartitionPlay(6);
        x.behaviour(1, 2);
        for (int rumour = 0; rumour < 8; rumour++) {
            x.tell(0, rumour);
        }
        x.play(1);
        Due.due("bytes(0)", x.bytes(0), 5 * 12);
        Due.due("bytes(1), still", x.bytes(1), 0);
        Due.due("bytes(2)", x.bytes(2), 5 * 4);
        x.play(40);
        Due.due("bytes(0) of 40", x.bytes(0), 40 * 5 * 12);
        Due.due("bytes(2) of 40", x.bytes(2), 5 * 4 + 39 * 5 * 12);
    }

    private static void countAnotherWhat() {
        Due.about("18: UNKNOWN");
        PartitionPlay x = new PartitionPlay(3);
        for (int turns = 0; turns <= 1; turns++) {
            x.play(turns);
            for (int what : new int[] {-1, 7, 8, 256, LEAST, MOST}) {
                Due.due("count(" + what + ")", x.count(what), UNKNOWN);
            }
        }
    }

    private static void countWithoutAPlay() {
        Due.about("18: 2 TURNS of THE PLAY (0: none)");
        PartitionPlay x = new PartitionPlay(3);
        x.event(LOSE, 0, 0, 0);
        Due.due("count(1)", x.count(1), 1);
        for (int what = 2; what <= 6; what++) {
            Due.due("count(" + what + ")", x.count(what), 0);
        }
    }

    private static void countOfTheFullest() {
        Due.about("18: How many, of the fullest");
        PartitionPlay x = new PartitionPlay(6);
        for (int i = 0; i < 10; i++) {
            x.event(LOSE, 0, 1190 + i, 0);
            x.event(DOUBLE, 0, i, 1);
        }
        x.play(40);
        int[] due = {6, 20, 40, 1200, 10, 1170 + 10, 0};
        for (int what = 0; what <= 6; what++) {
            Due.due("count(" + what + ")", x.count(what), due[what]);
        }
    }

    private static void countOfTheMostComings() {
        Due.about("18: 5 taken in (comings), 6 comings that were gone: the most");
        PartitionPlay x = new PartitionPlay(6);
        for (int i = 0; i < 20; i++) {
            x.event(DOUBLE, 0, 1139, 1);
        }
        x.play(40);
        Due.due("count(5)", x.count(5), 1170 + 20);
        Due.due("letter(1139, 6)", x.letter(1139, 6), 21);
        Due.due("letter(1169, 6), behind all these", x.letter(1169, 6), 1);
        x.drop(0);
        x.event(PART, 39, 1 << 5, 0);
        x.play(40);
        Due.due("count(5), parted at the last turn", x.count(5), 1170 - 10);
        Due.due("count(6), parted at the last turn", x.count(6), 10 + 19);
    }
}
