/** The edges that the schedule, the four steps of a turn and the rule name (the document's Terms), a method for each. */
public final class EdgesOfTurnsTest {
    private static final int NONE = -1;
    private static final int PART = 0, HEAL = 1, CRASH = 2, RISE = 3, LOSE = 4, DOUBLE = 5, LATE = 6;

    public static void main(String[] args) {
        eachPlayBeginsAnew();
        eventsAtTheFirstTurn();
        eventsAtTheLastTurn();
        eventsBehindTheLastTurn();
        aRiseOfOneThatIsUp();
        aRiseOfOneThatWasDown();
        aRiseIsShownNothingByEachOther();
        aRiseIsShownNoughtAndNoMore();
        aRiseLeavesWhatTheOthersWereShown();
        aRiseLeavesHeightAndRumours();
        twoCrashesAndOneRise();
        eachNodeMayCrashAndRise();
        goneToOneThatIsDown();
        notGoneFromOneThatIsDown();
        groupsOfTheComingCount();
        anEmptyAndAFullSetPartNobody();
        aPartTakesTheLastOnesPlace();
        aSmallerHeightIsNotShown();
        rumoursComeWithNoHeight();
        halfIsNotMoreThanHalf();
        oneLessThanItsOwnIsNotEnough();
        multiplesOfFour();
        oneLetterWhereBothReasonsHold();
        oneThatKeepsStill();
        whatOneSaysOfItself();
        lettersToThoseWhoCannotGetThem();
        lettersAreNumberedFromNought();
        lateOnesTogether();
        lateBothTimes();
        lostHoweverElseItIsNamed();
        eachDoubleMakesOneMore();
        theRuleAtHalf();
        theRuleOfEachNode();
        theRuleAtOneLess();
        theRuleWhereHonestOnesAreAtNought();
        theRuleWhereNobodyIsHonest();
        theRuleCountsAllNodes();
        failsAtTheFirstOfSeveral();
        Due.end();
    }

    private static void eachPlayBeginsAnew() {
        Due.about("2: A PLAY: all HEIGHTS are 0, each NODE knows what RUMOURS it was TOLD");
        PartitionPlay x = new PartitionPlay(2);
        x.tell(0, 1);
        x.event(PART, 3, 1, 0);
        x.event(CRASH, 5, 1, 0);
        x.play(7);
        String first = Face.ofPlay(x);
        Due.due("reached(1)", x.reached(1), 2);
        x.play(1);
        Due.due("reached(1)", x.reached(1), 1);
        Due.dueText("heights", Face.heights(x, 0), "1,1");
        x.play(7);
        Due.dueText("the same play again", Face.ofPlay(x), first);
    }

    private static void eventsAtTheFirstTurn() {
        Due.about("2 (1): EVENTS 0 to 3 of this TURN: the first");
        PartitionPlay x = new PartitionPlay(2);
        x.event(CRASH, 0, 0, 0);
        x.play(2);
        Due.dueText("heights", Face.heights(x, 0), "0,1");
        Due.due("letters", x.count(3), 1);
        Due.due("who sent it", x.letter(0, 0), 1);
    }

    private static void eventsAtTheLastTurn() {
        Due.about("2 (1): EVENTS 0 to 3 of this TURN: the last, 39");
        PartitionPlay x = new PartitionPlay(2);
        x.event(CRASH, 39, 0, 0);
        Due.due("play(40)", x.play(40), 40);
        Due.dueText("heights", Face.heights(x, 38) + ";" + Face.heights(x, 39), "39,39;39,40");
        Due.due("gone", x.count(6), 1);
    }

    private static void eventsBehindTheLastTurn() {
        Due.about("2: TURNS 0 .. T - 1");
        PartitionPlay x = new PartitionPlay(2);
        x.event(CRASH, 3, 0, 0);
        x.play(3);
        Due.dueText("of 3", Face.heights(x, 2), "3,3");
        x.play(4);
        Due.dueText("of 4", Face.heights(x, 3), "3,4");
    }

    /** Letter 3 is lost, so that node 0 has at turn 2 only what the boaster showed it at turn 1. */
    private static PartitionPlay boastedTo() {
        PartitionPlay x = new PartitionPlay(2);
        x.behaviour(1, 1);
        x.event(LOSE, 0, 3, 0);
        return x;
    }

    private static void aRiseOfOneThatIsUp() {
        Due.about("2 (1): A NODE that RISES (and was DOWN): one that was UP");
        PartitionPlay x = boastedTo();
        x.event(RISE, 2, 0, 0);
        x.play(3);
        Due.due("height(2, 0)", x.height(2, 0), 3);
    }

    private static void aRiseOfOneThatWasDown() {
        Due.about("2 (1): was SHOWN nothing (0) by all");
        PartitionPlay x = boastedTo();
        x.event(CRASH, 2, 0, 0);
        x.event(RISE, 2, 0, 0);
        x.play(3);
        Due.due("height(2, 0)", x.height(2, 0), 2);
        x = new PartitionPlay(3);
        x.behaviour(1, 1);
        x.behaviour(2, 1);
        x.event(LOSE, 0, 8, 0);
        x.event(LOSE, 0, 10, 0);
        x.play(3);
        Due.due("of three, not risen: height(2, 0)", x.height(2, 0), 3);
        x.event(CRASH, 2, 0, 0);
        x.event(RISE, 2, 0, 0);
        x.play(3);
        Due.due("of three: height(2, 0)", x.height(2, 0), 2);
    }

    private static void aRiseIsShownNothingByEachOther() {
        Due.about("2 (1): was SHOWN nothing (0) by all: by each one alone");
        for (int risen = 0; risen < 2; risen++) {
            PartitionPlay x = new PartitionPlay(2);
            x.behaviour(1 - risen, 1);
            x.event(LOSE, 0, 3 - risen, 0);
            x.event(CRASH, 2, risen, 0);
            x.event(RISE, 2, risen, 0);
            x.play(3);
            Due.due("height(1, " + risen + ")", x.height(1, risen), 2);
            Due.due("height(2, " + risen + ")", x.height(2, risen), 2);
        }
    }

    private static void aRiseIsShownNoughtAndNoMore() {
        Due.about("2 (1): was SHOWN nothing (0): not 1");
        PartitionPlay x = new PartitionPlay(2);
        x.event(LOSE, 0, 1, 0);
        x.event(CRASH, 1, 0, 0);
        x.event(RISE, 1, 0, 0);
        x.play(2);
        Due.dueText("heights", Face.heights(x, 1), "1,2");
    }

    private static void aRiseLeavesWhatTheOthersWereShown() {
        Due.about("2 (1): was SHOWN nothing (0) by all: not the others by it");
        PartitionPlay x = new PartitionPlay(2);
        x.behaviour(0, 1);
        x.event(LOSE, 0, 2, 0);
        x.event(CRASH, 2, 0, 0);
        x.event(RISE, 2, 0, 0);
        x.play(3);
        Due.due("height(2, 1)", x.height(2, 1), 3);
    }

    private static void aRiseLeavesHeightAndRumours() {
        Due.about("2 (1): HEIGHT and RUMOURS stay with it");
        PartitionPlay x = new PartitionPlay(2);
        x.tell(0, 6);
        x.tell(1, 2);
        x.event(CRASH, 2, 0, 0);
        x.event(RISE, 4, 0, 0);
        x.play(5);
        Due.dueText("down", Face.heights(x, 3), "2,3");
        Due.dueText("risen", Face.heights(x, 4), "2,3");
        Due.due("letters", x.count(3), 7);
        Due.due("its letter's sender", x.letter(5, 0), 0);
        Due.due("its letter's height", x.letter(5, 3), 2);
        Due.due("its letter's rumours", x.letter(5, 4), 4 + 64);
    }

    private static void twoCrashesAndOneRise() {
        Due.about("Terms: 2 CRASH: NODE a is DOWN. 3 RISE: it is UP");
        PartitionPlay x = new PartitionPlay(2);
        x.event(CRASH, 1, 0, 0);
        x.event(CRASH, 1, 0, 0);
        x.event(RISE, 2, 0, 0);
        x.play(3);
        Due.dueText("down", Face.heights(x, 1), "1,2");
        Due.dueText("up", Face.heights(x, 2), "2,2");
    }

    private static void eachNodeMayCrashAndRise() {
        Due.about("Terms: 2 CRASH: NODE a is DOWN. 3 RISE: it is UP: the first and the last NODE");
        for (int n = 2; n <= 6; n++) {
            for (int node = 0; node < n; node++) {
                PartitionPlay x = new PartitionPlay(n);
                x.event(CRASH, 1, node, 0);
                x.event(RISE, 2, node, 0);
                x.play(3);
                Due.due("down: node " + node + " of " + n, x.height(1, node), 1);
                Due.due("up: node " + node + " of " + n, x.height(2, node), 2);
                Due.due("gone", x.count(6), n - 1);
            }
        }
    }

    private static void goneToOneThatIsDown() {
        Due.about("2 (2): it is gone, if it is to a NODE that is DOWN");
        PartitionPlay x = new PartitionPlay(2);
        x.event(CRASH, 1, 1, 0);
        x.play(2);
        Due.due("it crashes as the letter comes", x.letter(0, 6), 0);
        Due.due("gone", x.count(6), 1);
        x = new PartitionPlay(2);
        x.event(CRASH, 0, 1, 0);
        x.event(RISE, 1, 1, 0);
        x.play(2);
        Due.due("it rises as the letter comes", x.letter(0, 6), 1);
        Due.due("gone", x.count(6), 0);
    }

    private static void notGoneFromOneThatIsDown() {
        Due.about("2 (2): to a NODE that is DOWN: not from one");
        PartitionPlay x = new PartitionPlay(2);
        x.event(CRASH, 1, 1, 0);
        x.play(2);
        Due.due("letter(1, 6)", x.letter(1, 6), 1);
        Due.due("height(1, 0)", x.height(1, 0), 2);
    }

    private static void groupsOfTheComingCount() {
        Due.about("2 (2): or its two NODES are not of one GROUP now");
        PartitionPlay x = new PartitionPlay(2);
        x.delay(0, 1, 2);
        x.event(PART, 0, 1, 0);
        x.event(HEAL, 2, 0, 0);
        x.play(3);
        Due.due("sent parted, comes healed", x.letter(0, 6), 1);
        x = new PartitionPlay(2);
        x.delay(0, 1, 2);
        x.event(PART, 2, 2, 0);
        x.play(3);
        Due.due("sent as one, comes parted", x.letter(0, 6), 0);
        Due.due("it came", x.letter(0, 5), 2);
    }

    private static void anEmptyAndAFullSetPartNobody() {
        Due.about("Terms: the NODES of a set a are one GROUP, the others another one: an empty and a full set");
        for (int n = 2; n <= 6; n++) {
            for (int set : new int[] {0, (1 << n) - 1}) {
                PartitionPlay x = new PartitionPlay(n);
                x.event(PART, 0, 1, 0);
                x.event(PART, 1, set, 0);
                Due.due("play(2) of " + n, x.play(2), 2);
                Due.due("gone", x.count(6), 0);
            }
        }
    }

    private static void aPartTakesTheLastOnesPlace() {
        Due.about("Terms: the NODES of a set a are one GROUP, the others another one: one PART behind another");
        PartitionPlay x = new PartitionPlay(3);
        x.event(PART, 1, 1, 0);
        x.event(PART, 2, 2, 0);
        x.play(3);
        int[] taken = {0, 0, 0, 1};
        for (int k = 0; k < 4; k++) {
            int letter = new int[] {6, 7, 9, 8}[k];
            Due.due("letter(" + letter + ", 6)", x.letter(letter, 6), taken[k]);
        }
        Due.due("gone", x.count(6), 4 + 3);
    }

    private static void aSmallerHeightIsNotShown() {
        Due.about("2 (2): if that is more than it was SHOWN by that one before");
        PartitionPlay x = new PartitionPlay(2);
        x.event(LATE, 0, 1, 2);
        x.play(4);
        Due.due("the late letter's height", x.letter(1, 3), 1);
        Due.due("it comes at", x.letter(1, 5), 3);
        Due.dueText("before it comes", Face.heights(x, 2), "2,2");
        Due.dueText("as it comes", Face.heights(x, 3), "3,3");
    }

    private static void rumoursComeWithNoHeight() {
        Due.about("2 (2): and knows its RUMOURS: with a HEIGHT of 0");
        PartitionPlay x = new PartitionPlay(2);
        x.behaviour(0, 3);
        x.tell(0, 5);
        x.play(2);
        Due.due("letter(0, 3)", x.letter(0, 3), 0);
        Due.due("reached(5)", x.reached(5), 2);
    }

    /** Parted at turn 1, each node was shown enough by its own group alone. */
    private static void halfIsNotMoreThanHalf() {
        Due.about("2 (3): if more than half of the N NODES");
        for (int n = 2; n <= 6; n++) {
            for (int size = 1; size < n; size++) {
                PartitionPlay x = new PartitionPlay(n);
                x.event(PART, 1, (1 << size) - 1, 0);
                x.play(2);
                String parted = "of " + n + ", " + size + " in a group: ";
                Due.due(parted + "the first node", x.height(1, 0), 2 * size > n ? 2 : 1);
                Due.due(parted + "the last node", x.height(1, n - 1), 2 * (n - size) > n ? 2 : 1);
            }
        }
    }

    private static void oneLessThanItsOwnIsNotEnough() {
        Due.about("2 (3): no less than its own HEIGHT (itself being one of them)");
        PartitionPlay x = new PartitionPlay(2);
        x.event(LOSE, 0, 2, 0);
        x.play(3);
        Due.due("node 1 was shown 1, and is at 2", x.height(2, 1), 2);
        Due.due("node 0 was shown 2, and is at 2", x.height(2, 0), 3);
    }

    private static void multiplesOfFour() {
        Due.about("2 (4): or this TURN is a multiple of 4");
        PartitionPlay x = new PartitionPlay(4);
        x.event(PART, 1, 3, 0);
        for (int turns = 1; turns <= 40; turns++) {
            x.play(turns);
            Due.due("letters of " + turns + " turns", x.count(3), 12 * ((turns + 3) / 4));
        }
        Due.due("letter(12, 2)", x.letter(12, 2), 4);
        Due.due("letter(119, 2)", x.letter(119, 2), 36);
    }

    private static void oneLetterWhereBothReasonsHold() {
        Due.about("2 (4): if its HEIGHT grew in this TURN, or this TURN is a multiple of 4: a LETTER to each other");
        PartitionPlay x = new PartitionPlay(2);
        for (int turns = 1; turns <= 40; turns++) {
            x.play(turns);
            Due.due("letters of " + turns + " turns", x.count(3), 2 * turns);
        }
    }

    private static void oneThatKeepsStill() {
        Due.about("2 (4): but one that KEEPS STILL");
        PartitionPlay x = new PartitionPlay(3);
        x.behaviour(1, 2);
        x.play(40);
        Due.due("letters", x.count(3), 160);
        Due.due("bytes(1)", x.bytes(1), 0);
        Due.due("it grows", x.height(39, 1), 40);
        x.behaviour(0, 2);
        x.behaviour(2, 2);
        Due.due("all keep still: play(40)", x.play(40), 1);
        Due.due("all keep still: letters", x.count(3), 0);
    }

    private static void whatOneSaysOfItself() {
        Due.about("2 (4): with its HEIGHT (3 more of one that BOASTS, 0 of one that FORGETS)");
        int[] first = {1, 4, 0, 0};
        int[] last = {40, 43, 0, 0};
        PartitionPlay x = new PartitionPlay(6);
        for (int kind = 0; kind <= 3; kind++) {
            x.behaviour(kind, kind);
        }
        x.play(40);
        for (int k = 0; k < x.count(3); k++) {
            int sender = x.letter(k, 0);
            int turn = x.letter(k, 2);
            if (sender <= 3 && (turn == 0 || turn == 39)) {
                Due.due("letter(" + k + ", 3)", x.letter(k, 3), (turn == 0 ? first : last)[sender]);
            }
        }
        Due.due("letters", x.count(3), 40 * 5 * 5);
    }

    private static void lettersToThoseWhoCannotGetThem() {
        Due.about("2 (4): a LETTER to each other NODE: that is DOWN, or of another GROUP");
        PartitionPlay x = new PartitionPlay(3);
        x.event(CRASH, 0, 2, 0);
        x.event(PART, 0, 1, 0);
        x.play(1);
        Due.due("letters", x.count(3), 4);
        Due.due("letter(1, 1)", x.letter(1, 1), 2);
        Due.due("letter(2, 1)", x.letter(2, 1), 0);
    }

    private static void lettersAreNumberedFromNought() {
        Due.about("2 (4): LETTERS are numbered from 0 as they are sent");
        int[][] due = {{0, 1}, {0, 2}, {1, 0}, {1, 2}, {2, 0}, {2, 1}};
        PartitionPlay x = new PartitionPlay(3);
        x.play(2);
        for (int k = 0; k < 12; k++) {
            Due.due("letter(" + k + ", 0)", x.letter(k, 0), due[k % 6][0]);
            Due.due("letter(" + k + ", 1)", x.letter(k, 1), due[k % 6][1]);
            Due.due("letter(" + k + ", 2)", x.letter(k, 2), k / 6);
        }
    }

    private static void lateOnesTogether() {
        Due.about("2 (4): at t and the DELAY (and what LATE ones of THE SCHEDULE say together)");
        PartitionPlay x = new PartitionPlay(2);
        x.delay(0, 1, 5);
        for (int lates = 1; lates <= 20; lates++) {
            x.event(LATE, 0, 0, 5);
            x.play(40);
            Due.due("comes, " + lates + " times late", x.letter(0, 5), 5 + 5 * lates);
            Due.due("taken in", x.letter(0, 6), 5 + 5 * lates < 40 ? 1 : 0);
        }
    }

    private static void lateBothTimes() {
        Due.about("Terms: it comes (both times) b TURNS later");
        PartitionPlay x = new PartitionPlay(2);
        x.event(DOUBLE, 0, 0, 1);
        x.event(LATE, 0, 0, 5);
        int[] takenByTurns = {0, 0, 0, 0, 0, 0, 0, 1, 2, 2};
        for (int turns = 1; turns <= 9; turns++) {
            x.play(turns);
            Due.due("taken in of " + turns, x.letter(0, 6), takenByTurns[turns]);
        }
    }

    private static void lostHoweverElseItIsNamed() {
        Due.about("2 (4): one that is to be LOST does not come (4 and more for one LETTER: all count)");
        PartitionPlay x = new PartitionPlay(2);
        x.event(DOUBLE, 0, 0, 1);
        x.event(LOSE, 0, 0, 0);
        x.event(LATE, 0, 0, 1);
        x.event(LOSE, 0, 0, 0);
        x.play(9);
        Due.due("letter(0, 5)", x.letter(0, 5), NONE);
        Due.due("letter(0, 6)", x.letter(0, 6), 0);
        Due.due("lost", x.count(4), 1);
        Due.due("gone", x.count(6), 0);
    }

    private static void eachDoubleMakesOneMore() {
        Due.about("2 (4): each 5 makes one coming more");
        PartitionPlay x = new PartitionPlay(2);
        for (int doubles = 1; doubles <= 20; doubles++) {
            x.event(DOUBLE, 0, 0, 1);
            x.play(3);
            Due.due("letter(0, 6) of " + doubles, x.letter(0, 6), 1 + doubles);
            Due.due("taken in of " + doubles, x.count(5), 4 + doubles);
        }
        x.drop(19);
        x.event(CRASH, 2, 1, 0);
        x.play(3);
        Due.due("the first alone is taken in", x.letter(0, 6), 1);
        Due.due("the others are gone, and letter 2", x.count(6), 19 + 1);
    }

    /** The last boasts of those that crash at turn 1 let the others go on to height 3 at turn 2. */
    private static PartitionPlay boastersCrash(int n, int boasters) {
        PartitionPlay x = new PartitionPlay(n);
        for (int node = 0; node < boasters; node++) {
            x.behaviour(node, 1);
            x.event(CRASH, 1, node, 0);
        }
        return x;
    }

    private static void theRuleAtHalf() {
        Due.about("THE RULE: more than half of the N NODES");
        for (int n = 2; n <= 6; n++) {
            for (int boasters = 1; boasters < n; boasters++) {
                PartitionPlay x = boastersCrash(n, boasters);
                boolean fails = 2 * (n - boasters) <= n;
                String made = "of " + n + ", " + boasters + " crash: ";
                Due.due(made + "play(3)", x.play(3), 3);
                Due.due(made + "holds(2)", x.holds(2), fails ? 0 : 1);
                Due.due(made + "fails()", x.fails(), fails ? 2 : NONE);
            }
        }
    }

    private static void theRuleOfEachNode() {
        Due.about("THE RULE: the greatest HEIGHT of HONEST NODES: of each one alone");
        for (int n = 2; n <= 6; n++) {
            for (int honest = 0; honest < n; honest++) {
                PartitionPlay x = new PartitionPlay(n);
                for (int node = 0; node < n; node++) {
                    if (node != honest) {
                        x.behaviour(node, 1);
                        x.event(CRASH, 1, node, 0);
                    }
                }
                Due.due("node " + honest + " of " + n + " alone: play(3)", x.play(3), 3);
                Due.due("fails()", x.fails(), 2);
            }
        }
    }

    private static void theRuleAtOneLess() {
        Due.about("THE RULE: HEIGHTS of that less 1, or more");
        PartitionPlay x = boastersCrash(2, 1);
        x.play(3);
        Due.dueText("one less", Face.heights(x, 1), "1,2");
        Due.due("holds(1)", x.holds(1), 1);
        Due.dueText("two less", Face.heights(x, 2), "1,3");
        Due.due("holds(2)", x.holds(2), 0);
    }

    private static void theRuleWhereHonestOnesAreAtNought() {
        Due.about("THE RULE: the greatest HEIGHT of HONEST NODES is 0");
        PartitionPlay x = new PartitionPlay(3);
        x.behaviour(1, 1);
        x.behaviour(2, 1);
        x.event(CRASH, 0, 0, 0);
        Due.due("play(10)", x.play(10), 10);
        Due.dueText("heights", Face.heights(x, 9), "0,10,10");
        Due.due("holds(9)", x.holds(9), 1);
        Due.due("fails()", x.fails(), NONE);
    }

    private static void theRuleWhereNobodyIsHonest() {
        Due.about("THE RULE: the greatest HEIGHT of HONEST NODES: there are none");
        for (int kind = 1; kind <= 3; kind++) {
            PartitionPlay x = boastersCrash(2, 1);
            x.behaviour(1, kind);
            x.play(3);
            Due.dueText("heights", Face.heights(x, 2), "1,3");
            Due.due("holds(2)", x.holds(2), 1);
            Due.due("fails()", x.fails(), NONE);
        }
    }

    private static void theRuleCountsAllNodes() {
        Due.about("THE RULE: of the N NODES, HONEST or not");
        for (int kind = 1; kind <= 2; kind++) {
            PartitionPlay x = new PartitionPlay(3);
            x.behaviour(0, kind);
            x.event(CRASH, 1, 1, 0);
            x.play(9);
            Due.dueText("heights", Face.heights(x, 1), "2,1,2");
            Due.due("fails()", x.fails(), NONE);
        }
    }

    private static void failsAtTheFirstOfSeveral() {
        Due.about("THE PLAY FAILS at the first TURN behind which it does not");
        PartitionPlay x = boastersCrash(2, 1);
        x.event(CRASH, 3, 1, 0);
        x.event(RISE, 3, 0, 0);
        x.event(RISE, 5, 1, 0);
        x.play(12);
        Due.due("holds(1)", x.holds(1), 1);
        Due.due("holds(2)", x.holds(2), 0);
        Due.due("fails()", x.fails(), 2);
        x.play(2);
        Due.due("fails() of 2 turns", x.fails(), NONE);
    }
}
