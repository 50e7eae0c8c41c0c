/** The edges that promises 5 to 7 name, a method for each. */
public final class EdgesOfScheduleTest {
    private static final int UNKNOWN = -2, OUTSIDE = -3, ROOM = -5;
    private static final int LEAST = Integer.MIN_VALUE, MOST = Integer.MAX_VALUE;
    private static final int PART = 0, HEAL = 1, CRASH = 2, RISE = 3, LOSE = 4, DOUBLE = 5, LATE = 6;

    public static void main(String[] args) {
        noSuchKind();
        noSuchNode();
        unknownComesBeforeOutside();
        turnOutside();
        turnsAtTheEnds();
        setOutside();
        setsAtTheEnds();
        letterOutside();
        lettersAtTheEnds();
        waitOutside();
        waitsAtTheEnds();
        turnIsNotLookedAt();
        aIsNotLookedAt();
        bIsNotLookedAt();
        roomForTwenty();
        roomComesLast();
        roomAgainBehindADrop();
        dropNoEvent();
        dropTheOnlyEvent();
        dropTheFirstEvent();
        dropTheLastEvent();
        dropAllOfAFullSchedule();
        toldOfNoEvent();
        toldAnotherWhat();
        toldWhatAKindHasNot();
        Due.end();
    }

    private static void takes(PartitionPlay x, int kind, int turn, int a, int b) {
        int number = x.count(1);
        Due.due(call(kind, turn, a, b), x.event(kind, turn, a, b), number);
    }

    /** Refused, and there are as many events as before. */
    private static void refuses(int answer, PartitionPlay x, int kind, int turn, int a, int b) {
        String before = Face.ofSchedule(x);
        Due.due(call(kind, turn, a, b), x.event(kind, turn, a, b), answer);
        Due.dueText("the schedule behind " + call(kind, turn, a, b), Face.ofSchedule(x), before);
    }

    private static String call(int kind, int turn, int a, int b) {
        return "event(" + kind + ", " + turn + ", " + a + ", " + b + ")";
    }

    private static void noSuchKind() {
        Due.about("5: UNKNOWN: the kind");
        for (int kind : new int[] {-1, 7, 8, 256, LEAST, MOST}) {
            refuses(UNKNOWN, new PartitionPlay(3), kind, 0, 0, 1);
        }
    }

    private static void noSuchNode() {
        Due.about("5: UNKNOWN: a NODE");
        for (int n = 2; n <= 6; n++) {
            for (int node : new int[] {-1, n, n + 1, LEAST, MOST}) {
                refuses(UNKNOWN, new PartitionPlay(n), CRASH, 0, node, 0);
                refuses(UNKNOWN, new PartitionPlay(n), RISE, 0, node, 0);
            }
            takes(new PartitionPlay(n), CRASH, 0, n - 1, 0);
            takes(new PartitionPlay(n), RISE, 0, n - 1, 0);
            takes(new PartitionPlay(n), CRASH, 0, 0, 0);
            takes(new PartitionPlay(n), RISE, 0, 0, 0);
        }
    }

    private static void unknownComesBeforeOutside() {
        Due.about("5: of several the first that fits: UNKNOWN, OUTSIDE");
        refuses(UNKNOWN, new PartitionPlay(3), 7, 40, -1, 9);
        refuses(UNKNOWN, new PartitionPlay(3), -1, -1, 1200, 0);
        refuses(UNKNOWN, new PartitionPlay(3), CRASH, 40, 3, 0);
        refuses(UNKNOWN, new PartitionPlay(3), RISE, -1, -1, 0);
    }

    private static void turnOutside() {
        Due.about("5: OUTSIDE: a TURN is not 0 .. 39");
        for (int kind = PART; kind <= RISE; kind++) {
            for (int turn : new int[] {-1, 40, 41, 65536, LEAST, MOST}) {
                refuses(OUTSIDE, new PartitionPlay(3), kind, turn, 1, 0);
            }
        }
    }

    private static void turnsAtTheEnds() {
        Due.about("5: a TURN 0 .. 39");
        PartitionPlay x = new PartitionPlay(3);
        for (int kind = PART; kind <= RISE; kind++) {
            takes(x, kind, 0, 1, 0);
            takes(x, kind, 39, 1, 0);
        }
        Due.dueText("as told", Face.ofSchedule(x),
            "0,0,1,0;0,39,1,0;1,0,0,0;1,39,0,0;2,0,1,0;2,39,1,0;3,0,1,0;3,39,1,0;");
    }

    private static void setOutside() {
        Due.about("5: OUTSIDE: a set has bits of no NODES");
        for (int n = 2; n <= 6; n++) {
            for (int bit = n; bit < 32; bit++) {
                refuses(OUTSIDE, new PartitionPlay(n), PART, 0, 1 << bit, 0);
                refuses(OUTSIDE, new PartitionPlay(n), PART, 0, 1 | 1 << bit, 0);
            }
            refuses(OUTSIDE, new PartitionPlay(n), PART, 0, -1, 0);
            refuses(OUTSIDE, new PartitionPlay(n), PART, 0, MOST, 0);
        }
    }

    private static void setsAtTheEnds() {
        Due.about("5: a set of NODES, empty, full");
        for (int n = 2; n <= 6; n++) {
            PartitionPlay x = new PartitionPlay(n);
            takes(x, PART, 0, 0, 0);
            takes(x, PART, 0, (1 << n) - 1, 0);
            takes(x, PART, 0, 1 << n - 1, 0);
            Due.due("told(0, 2)", x.told(0, 2), 0);
            Due.due("told(1, 2)", x.told(1, 2), (1 << n) - 1);
            Due.due("told(2, 2)", x.told(2, 2), 1 << n - 1);
        }
    }

    private static void letterOutside() {
        Due.about("5: OUTSIDE: a LETTER is not 0 .. 1199");
        for (int kind = LOSE; kind <= LATE; kind++) {
            for (int letter : new int[] {-1, 1200, 1201, 65536, LEAST, MOST}) {
                refuses(OUTSIDE, new PartitionPlay(2), kind, 0, letter, 1);
            }
        }
    }

    private static void lettersAtTheEnds() {
        Due.about("5: a LETTER 0 .. 1199");
        PartitionPlay x = new PartitionPlay(2);
        for (int kind = LOSE; kind <= LATE; kind++) {
            takes(x, kind, 0, 0, 1);
            takes(x, kind, 0, 1199, 1);
        }
        Due.dueText("as told", Face.ofSchedule(x), "4,0,0,0;4,0,1199,0;5,0,0,1;5,0,1199,1;6,0,0,1;6,0,1199,1;");
    }

    private static void waitOutside() {
        Due.about("5: OUTSIDE: b is not 1 .. 5");
        for (int kind = DOUBLE; kind <= LATE; kind++) {
            for (int b : new int[] {0, 6, -1, 257, LEAST, MOST}) {
                refuses(OUTSIDE, new PartitionPlay(2), kind, 0, 0, b);
            }
        }
    }

    private static void waitsAtTheEnds() {
        Due.about("5: b 1 .. 5");
        PartitionPlay x = new PartitionPlay(2);
        for (int kind = DOUBLE; kind <= LATE; kind++) {
            takes(x, kind, 0, 9, 1);
            takes(x, kind, 0, 9, 5);
        }
        Due.dueText("as told", Face.ofSchedule(x), "5,0,9,1;5,0,9,5;6,0,9,1;6,0,9,5;");
    }

    private static void turnIsNotLookedAt() {
        Due.about("5: what its kind does not have is not looked at: the TURN of 4 to 6");
        for (int kind = LOSE; kind <= LATE; kind++) {
            for (int turn : new int[] {-1, 40, LEAST, MOST}) {
                takes(new PartitionPlay(2), kind, turn, 3, 2);
            }
        }
    }

    private static void aIsNotLookedAt() {
        Due.about("5: what its kind does not have is not looked at: a of 1");
        for (int a : new int[] {-1, 2, 64, 1200, LEAST, MOST}) {
            takes(new PartitionPlay(2), HEAL, 3, a, 0);
        }
    }

    private static void bIsNotLookedAt() {
        Due.about("5: what its kind does not have is not looked at: b of 0 to 4");
        for (int kind = PART; kind <= LOSE; kind++) {
            for (int b : new int[] {-1, 0, 6, LEAST, MOST}) {
                takes(new PartitionPlay(2), kind, 3, 1, b);
            }
        }
    }

    private static PartitionPlay full() {
        PartitionPlay x = new PartitionPlay(2);
        for (int i = 0; i < 20; i++) {
            takes(x, LOSE, 0, 100 + i, 0);
        }
        return x;
    }

    private static void roomForTwenty() {
        Due.about("5: EVENTS, 20 at most; ROOM");
        PartitionPlay x = full();
        Due.due("count(1)", x.count(1), 20);
        for (int kind = PART; kind <= LATE; kind++) {
            refuses(ROOM, x, kind, 1, 1, 1);
        }
        Due.due("told(19, 2)", x.told(19, 2), 119);
    }

    private static void roomComesLast() {
        Due.about("5: of several the first that fits: UNKNOWN, OUTSIDE, ROOM");
        PartitionPlay x = full();
        refuses(UNKNOWN, x, 7, 0, 0, 1);
        refuses(UNKNOWN, x, CRASH, 0, 2, 0);
        refuses(OUTSIDE, x, HEAL, 40, 0, 0);
        refuses(OUTSIDE, x, PART, 0, 4, 0);
        refuses(OUTSIDE, x, LOSE, 0, 1200, 0);
        refuses(OUTSIDE, x, LATE, 0, 0, 6);
    }

    private static void roomAgainBehindADrop() {
        Due.about("5: ROOM; 6: An EVENT goes");
        PartitionPlay x = full();
        Due.due("drop(0)", x.drop(0), 19);
        Due.due("event(1, 39, 0, 0)", x.event(HEAL, 39, 0, 0), 19);
        Due.due("told(19, 1)", x.told(19, 1), 39);
        refuses(ROOM, x, HEAL, 39, 0, 0);
    }

    private static void dropNoEvent() {
        Due.about("6: UNKNOWN");
        PartitionPlay x = new PartitionPlay(2);
        Due.due("drop(0) of none", x.drop(0), UNKNOWN);
        x.event(HEAL, 1, 0, 0);
        x.event(HEAL, 2, 0, 0);
        for (int event : new int[] {-1, 2, 19, 20, LEAST, MOST}) {
            Due.due("drop(" + event + ")", x.drop(event), UNKNOWN);
        }
        Due.dueText("they stay", Face.ofSchedule(x), "1,1,0,0;1,2,0,0;");
        PartitionPlay y = full();
        Due.due("drop(20) of 20", y.drop(20), UNKNOWN);
        Due.due("count(1)", y.count(1), 20);
    }

    private static void dropTheOnlyEvent() {
        Due.about("6: how many there are: none");
        PartitionPlay x = new PartitionPlay(2);
        x.event(LATE, 0, 0, 5);
        Due.due("drop(0)", x.drop(0), 0);
        Due.due("told(0, 0)", x.told(0, 0), UNKNOWN);
        x.play(1);
        Due.due("letter 0 is not late", x.letter(0, 5), 1);
    }

    private static PartitionPlay ofThree() {
        PartitionPlay x = new PartitionPlay(2);
        x.event(PART, 1, 1, 0);
        x.event(DOUBLE, 0, 2, 4);
        x.event(CRASH, 3, 1, 0);
        return x;
    }

    private static void dropTheFirstEvent() {
        Due.about("6: those behind it are one less: of the first");
        PartitionPlay x = ofThree();
        Due.due("drop(0)", x.drop(0), 2);
        Due.dueText("what is left", Face.ofSchedule(x), "5,0,2,4;2,3,1,0;");
        Due.due("told(2, 0)", x.told(2, 0), UNKNOWN);
    }

    private static void dropTheLastEvent() {
        Due.about("6: those behind it are one less: of the last, there are none behind it");
        PartitionPlay x = ofThree();
        Due.due("drop(2)", x.drop(2), 2);
        Due.dueText("what is left", Face.ofSchedule(x), "0,1,1,0;5,0,2,4;");
        Due.due("drop(2) again", x.drop(2), UNKNOWN);
    }

    private static void dropAllOfAFullSchedule() {
        Due.about("6: how many there are: from 20 to none");
        PartitionPlay x = full();
        for (int left = 19; left >= 0; left--) {
            Due.due("drop(0)", x.drop(0), left);
            Due.due("told(0, 2)", x.told(0, 2), left > 0 ? 120 - left : UNKNOWN);
        }
        Due.due("drop(0)", x.drop(0), UNKNOWN);
        x = full();
        for (int left = 19; left >= 0; left--) {
            Due.due("drop(" + left + ")", x.drop(left), left);
        }
    }

    private static void toldOfNoEvent() {
        Due.about("7: UNKNOWN: no such EVENT");
        PartitionPlay x = ofThree();
        for (int event : new int[] {-1, 3, 19, 20, LEAST, MOST}) {
            for (int what = -1; what <= 4; what++) {
                Due.due("told(" + event + ", " + what + ")", x.told(event, what), UNKNOWN);
            }
        }
        Due.due("told(20, 0) of 20", full().told(20, 0), UNKNOWN);
    }

    private static void toldAnotherWhat() {
        Due.about("7: UNKNOWN: another what");
        PartitionPlay x = ofThree();
        for (int what : new int[] {-1, 4, 5, 256, LEAST, MOST}) {
            Due.due("told(1, " + what + ")", x.told(1, what), UNKNOWN);
        }
    }

    private static void toldWhatAKindHasNot() {
        Due.about("7: 1 TURN (0 of 4 to 6), 2 a (0 of 1), 3 b (0 of 0 to 4)");
        int[][] due = {{0, 7, 1, 0}, {1, 7, 0, 0}, {2, 7, 1, 0}, {3, 7, 1, 0}, {4, 0, 1, 0}, {5, 0, 1, 2}, {6, 0, 1, 2}};
        PartitionPlay x = new PartitionPlay(2);
        for (int kind = PART; kind <= LATE; kind++) {
            takes(x, kind, 7, 1, 2);
            for (int what = 0; what <= 3; what++) {
                Due.due("told(" + kind + ", " + what + ")", x.told(kind, what), due[kind][what]);
            }
        }
    }
}
