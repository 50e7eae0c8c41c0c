/** The edges that promises 1 to 4 name, a method for each. */
public final class EdgesOfSettingsTest {
    private static final int UNKNOWN = -2, OUTSIDE = -3, STATE = -4;
    private static final int LEAST = Integer.MIN_VALUE, MOST = Integer.MAX_VALUE;

    public static void main(String[] args) {
        tooFewNodesAreTwo();
        tooManyNodesAreSix();
        twoToSixNodesAreTaken();
        aNewObjectHasNoEvents();
        aNewObjectHasNoPlay();
        allAreHonestAtFirst();
        allDelaysAreOneAtFirst();
        nobodyWasToldAtFirst();
        allAreUpAndOfOneGroupAtFirst();
        behaviourOfNoNode();
        behaviourOutside();
        behaviourTakesEachKind();
        delayOfNoNode();
        delayFromANodeToItself();
        delayOutside();
        delayTakesOneToFive();
        tellToNoNode();
        tellNoRumour();
        tellARumourAgain();
        tellAllRumours();
        Due.end();
    }

    private static void tooFewNodesAreTwo() {
        Due.about("1: N NODES (2 .. 6, else the nearer one): too few");
        for (int given : new int[] {1, 0, -1, -6, LEAST + 1, LEAST}) {
            hasNodes(given, 2);
        }
    }

    private static void tooManyNodesAreSix() {
        Due.about("1: N NODES (2 .. 6, else the nearer one): too many");
        for (int given : new int[] {7, 8, 32, 65538, MOST - 1, MOST}) {
            hasNodes(given, 6);
        }
    }

    private static void twoToSixNodesAreTaken() {
        Due.about("1: N NODES (2 .. 6)");
        for (int given = 2; given <= 6; given++) {
            hasNodes(given, given);
        }
    }

    private static void hasNodes(int given, int due) {
        PartitionPlay x = new PartitionPlay(given);
        String made = "new PartitionPlay(" + given + "): ";
        Due.due(made + "count(0)", x.count(0), due);
        Due.due(made + "the last node", x.behaviour(due - 1, 0), 0);
        Due.due(made + "one node more", x.behaviour(due, 0), UNKNOWN);
        x.play(1);
        Due.due(made + "letters of a turn", x.count(3), due * (due - 1));
    }

    private static void aNewObjectHasNoEvents() {
        Due.about("1: no EVENTS");
        PartitionPlay x = new PartitionPlay(3);
        Due.due("count(1)", x.count(1), 0);
        Due.due("told(0, 0)", x.told(0, 0), UNKNOWN);
        Due.due("drop(0)", x.drop(0), UNKNOWN);
        Due.due("the first event", x.event(1, 0, 0, 0), 0);
    }

    private static void aNewObjectHasNoPlay() {
        Due.about("1: no PLAY");
        PartitionPlay x = new PartitionPlay(3);
        for (int what = 2; what <= 6; what++) {
            Due.due("count(" + what + ")", x.count(what), 0);
        }
        Due.due("height(0, 0)", x.height(0, 0), UNKNOWN);
        Due.due("holds(0)", x.holds(0), UNKNOWN);
        Due.due("fails()", x.fails(), STATE);
        Due.due("letter(0, 0)", x.letter(0, 0), UNKNOWN);
        Due.due("reached(0)", x.reached(0), STATE);
        Due.due("bytes(0)", x.bytes(0), STATE);
        Due.due("shrink()", x.shrink(), STATE);
        Due.due("minimal()", x.minimal(), STATE);
        Due.due("sets(0)", x.sets(0), STATE);
    }

    private static void allAreHonestAtFirst() {
        Due.about("Terms: 0 HONEST (at first)");
        for (int n = 2; n <= 6; n++) {
            PartitionPlay x = new PartitionPlay(n);
            for (int node = 0; node < n; node++) {
                Due.due("behaviour(" + node + ", 2) of " + n, x.behaviour(node, 2), 0);
            }
        }
    }

    private static void allDelaysAreOneAtFirst() {
        Due.about("Terms: DELAY (1 at first)");
        for (int n = 2; n <= 6; n++) {
            PartitionPlay x = new PartitionPlay(n);
            for (int pair = 0; pair < n * n; pair++) {
                int from = pair / n;
                int to = pair % n;
                if (from != to) {
                    Due.due("delay(" + from + ", " + to + ", 4) of " + n, x.delay(from, to, 4), 1);
                }
            }
        }
    }

    private static void nobodyWasToldAtFirst() {
        Due.about("4: how many it was told: of a new object");
        PartitionPlay x = new PartitionPlay(2);
        x.play(40);
        for (int rumour = 0; rumour < 8; rumour++) {
            Due.due("reached(" + rumour + ")", x.reached(rumour), 0);
        }
        Due.due("tell(0, 7)", x.tell(0, 7), 1);
        Due.due("tell(1, 0)", x.tell(1, 0), 1);
    }

    private static void allAreUpAndOfOneGroupAtFirst() {
        Due.about("Terms: all are one (as at first); it is UP (all are at first)");
        for (int n = 2; n <= 6; n++) {
            PartitionPlay x = new PartitionPlay(n);
            Due.due("play(2) of " + n, x.play(2), 2);
            for (int node = 0; node < n; node++) {
                Due.due("height(1, " + node + ")", x.height(1, node), 2);
            }
            Due.due("gone", x.count(6), 0);
            Due.due("taken in", x.count(5), n * (n - 1));
        }
    }

    private static void behaviourOfNoNode() {
        Due.about("2: UNKNOWN, also before OUTSIDE");
        for (int node : new int[] {-1, 4, 6, 32, LEAST, MOST}) {
            PartitionPlay x = new PartitionPlay(4);
            Due.due("behaviour(" + node + ", 1)", x.behaviour(node, 1), UNKNOWN);
            Due.due("behaviour(" + node + ", 4)", x.behaviour(node, 4), UNKNOWN);
        }
    }

    private static void behaviourOutside() {
        Due.about("2: OUTSIDE");
        PartitionPlay x = new PartitionPlay(4);
        x.behaviour(3, 2);
        for (int kind : new int[] {-1, 4, 256, LEAST, MOST}) {
            Due.due("behaviour(3, " + kind + ")", x.behaviour(3, kind), OUTSIDE);
        }
        Due.due("it stays", x.behaviour(3, 0), 2);
    }

    private static void behaviourTakesEachKind() {
        Due.about("2: what it was, of kinds 0 .. 3");
        PartitionPlay x = new PartitionPlay(6);
        int before = 0;
        for (int kind : new int[] {3, 0, 1, 2, 2, 3}) {
            Due.due("behaviour(5, " + kind + ")", x.behaviour(5, kind), before);
            before = kind;
        }
        Due.due("another node's", x.behaviour(4, 0), 0);
    }

    private static void delayOfNoNode() {
        Due.about("3: UNKNOWN, also before OUTSIDE");
        for (int node : new int[] {-1, 3, 5, 6, LEAST, MOST}) {
            PartitionPlay x = new PartitionPlay(3);
            Due.due("delay(" + node + ", 0, 1)", x.delay(node, 0, 1), UNKNOWN);
            Due.due("delay(0, " + node + ", 1)", x.delay(0, node, 1), UNKNOWN);
            Due.due("delay(" + node + ", " + node + ", 0)", x.delay(node, node, 0), UNKNOWN);
            Due.due("delay(" + node + ", 1, 6)", x.delay(node, 1, 6), UNKNOWN);
            Due.due("delay(1, " + node + ", 6)", x.delay(1, node, 6), UNKNOWN);
        }
    }

    private static void delayFromANodeToItself() {
        Due.about("3: UNKNOWN: also, they are one");
        PartitionPlay x = new PartitionPlay(3);
        for (int node = 0; node < 3; node++) {
            Due.due("delay(" + node + ", " + node + ", 1)", x.delay(node, node, 1), UNKNOWN);
            Due.due("delay(" + node + ", " + node + ", 6)", x.delay(node, node, 6), UNKNOWN);
        }
    }

    private static void delayOutside() {
        Due.about("3: OUTSIDE");
        PartitionPlay x = new PartitionPlay(3);
        x.delay(0, 1, 4);
        for (int turns : new int[] {0, 6, -1, 257, LEAST, MOST}) {
            Due.due("delay(0, 1, " + turns + ")", x.delay(0, 1, turns), OUTSIDE);
        }
        Due.due("it stays", x.delay(0, 1, 1), 4);
    }

    private static void delayTakesOneToFive() {
        Due.about("3: what it was, of 1 .. 5 TURNS");
        PartitionPlay x = new PartitionPlay(2);
        int before = 1;
        for (int turns : new int[] {5, 1, 2, 3, 4, 4, 5}) {
            Due.due("delay(1, 0, " + turns + ")", x.delay(1, 0, turns), before);
            x.play(1);
            Due.due("letter(1, 5)", x.letter(1, 5), turns);
            Due.due("letter(0, 5)", x.letter(0, 5), 1);
            before = turns;
        }
        Due.due("the other way", x.delay(0, 1, 1), 1);
    }

    private static void tellToNoNode() {
        Due.about("4: UNKNOWN: no such NODE");
        PartitionPlay x = new PartitionPlay(5);
        for (int node : new int[] {-1, 5, 6, LEAST, MOST}) {
            Due.due("tell(" + node + ", 0)", x.tell(node, 0), UNKNOWN);
        }
        x.play(1);
        Due.due("reached(0)", x.reached(0), 0);
    }

    private static void tellNoRumour() {
        Due.about("4: UNKNOWN: no such RUMOUR");
        PartitionPlay x = new PartitionPlay(5);
        for (int rumour : new int[] {-1, 8, 32, -32, LEAST, MOST}) {
            Due.due("tell(4, " + rumour + ")", x.tell(4, rumour), UNKNOWN);
        }
        x.play(1);
        Due.due("what it knows", x.letter(19, 4), 0);
        Due.due("tell(4, 0)", x.tell(4, 0), 1);
    }

    private static void tellARumourAgain() {
        Due.about("4: how many it was told: one told again");
        PartitionPlay x = new PartitionPlay(2);
        Due.due("tell(0, 3)", x.tell(0, 3), 1);
        Due.due("tell(0, 3)", x.tell(0, 3), 1);
        Due.due("tell(0, 4)", x.tell(0, 4), 2);
        Due.due("tell(1, 3)", x.tell(1, 3), 1);
    }

    private static void tellAllRumours() {
        Due.about("4: how many it was told: all of them");
        PartitionPlay x = new PartitionPlay(2);
        for (int rumour = 0; rumour < 8; rumour++) {
            Due.due("tell(1, " + rumour + ")", x.tell(1, rumour), rumour + 1);
        }
        Due.due("tell(1, 0)", x.tell(1, 0), 8);
        x.play(1);
        Due.due("letter(1, 4)", x.letter(1, 4), 255);
        Due.due("letter(0, 4)", x.letter(0, 4), 0);
        Due.due("bytes(1)", x.bytes(1), 12);
    }
}
