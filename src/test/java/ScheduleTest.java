/** Promises 5 to 7: event, drop, told. */
public final class ScheduleTest {
    private static final int UNKNOWN = -2, OUTSIDE = -3, ROOM = -5;
    private static final int LEAST = Integer.MIN_VALUE, MOST = Integer.MAX_VALUE;

    public static void main(String[] args) {
        eventsAreNumbered();
        whatAKindHasNotIsNotLookedAt();
        unknownKindsAndNodes();
        outsideNumbers();
        edgesAreTaken();
        roomIsForTwenty();
        unknownAndOutsideComeBeforeRoom();
        dropMovesTheOthers();
        dropAndToldRefuse();
        Due.end();
    }

    private static void eventsAreNumbered() {
        PartitionPlay x = new PartitionPlay(4);
        Due.due("PART", x.event(0, 39, 15, 9), 0);
        Due.due("HEAL", x.event(1, 0, 7, 9), 1);
        Due.due("CRASH", x.event(2, 5, 3, 9), 2);
        Due.due("RISE", x.event(3, 6, 2, 9), 3);
        Due.due("LOSE", x.event(4, 8, 1199, 9), 4);
        Due.due("DOUBLE", x.event(5, 8, 17, 5), 5);
        Due.due("LATE", x.event(6, 8, 0, 1), 6);
        Due.dueText("as told", Face.ofSchedule(x),
            "0,39,15,0;1,0,0,0;2,5,3,0;3,6,2,0;4,0,1199,0;5,0,17,5;6,0,0,1;");
        Due.due("count(1)", x.count(1), 7);
    }

    private static void whatAKindHasNotIsNotLookedAt() {
        PartitionPlay x = new PartitionPlay(2);
        Due.due("PART without b", x.event(0, 1, 1, LEAST), 0);
        Due.due("HEAL without a and b", x.event(1, 2, MOST, LEAST), 1);
        Due.due("CRASH without b", x.event(2, 3, 1, MOST), 2);
        Due.due("RISE without b", x.event(3, 4, 0, -9), 3);
        Due.due("LOSE without turn and b", x.event(4, -1, 3, 6), 4);
        Due.due("DOUBLE without turn", x.event(5, 40, 4, 2), 5);
        Due.due("LATE without turn", x.event(6, LEAST, 5, 3), 6);
        Due.dueText("as told", Face.ofSchedule(x),
            "0,1,1,0;1,2,0,0;2,3,1,0;3,4,0,0;4,0,3,0;5,0,4,2;6,0,5,3;");
    }

    private static void unknownKindsAndNodes() {
        PartitionPlay x = new PartitionPlay(3);
        int[][] unknown = {
            {-1, 0, 0, 1}, {7, 0, 0, 1}, {LEAST, 99, -1, 9}, {MOST, 0, 0, 0},
            {2, 0, 3, 0}, {2, 0, -1, 0}, {3, 0, 3, 0}, {3, 0, -1, 0}, {2, 40, 3, 0}, {3, -1, LEAST, 0}};
        for (int[] e : unknown) {
            Due.due(text(e), x.event(e[0], e[1], e[2], e[3]), UNKNOWN);
        }
        Due.due("count(1)", x.count(1), 0);
    }

    private static void outsideNumbers() {
        PartitionPlay x = new PartitionPlay(3);
        int[][] outside = {
            {0, -1, 1, 0}, {0, 40, 1, 0}, {0, 0, 8, 0}, {0, 0, 9, 0}, {0, 0, -1, 0}, {0, 0, LEAST, 0}, {0, 0, 64, 0},
            {1, -1, 0, 0}, {1, 40, 0, 0}, {2, -1, 0, 0}, {2, 40, 2, 0}, {3, -1, 0, 0}, {3, 40, 2, 0},
            {4, 0, -1, 1}, {4, 0, 1200, 1}, {5, 0, -1, 1}, {5, 0, 1200, 1}, {6, 0, -1, 1}, {6, 0, 1200, 1},
            {5, 0, 0, 0}, {5, 0, 0, 6}, {6, 0, 0, 0}, {6, 0, 0, 6}, {5, 0, 0, -1}, {6, 0, MOST, LEAST}};
        for (int[] e : outside) {
            Due.due(text(e), x.event(e[0], e[1], e[2], e[3]), OUTSIDE);
        }
        Due.due("count(1)", x.count(1), 0);
    }

    private static void edgesAreTaken() {
        int[][] edges = {
            {0, 0, 0, 0}, {0, 39, 7, 0}, {1, 39, 0, 0}, {2, 0, 0, 0}, {2, 39, 2, 0}, {3, 39, 2, 0},
            {4, 0, 0, 0}, {4, 0, 1199, 0}, {5, 0, 1199, 1}, {5, 0, 0, 5}, {6, 0, 1199, 5}, {6, 0, 0, 1}};
        PartitionPlay x = new PartitionPlay(3);
        for (int i = 0; i < edges.length; i++) {
            int[] e = edges[i];
            Due.due(text(e), x.event(e[0], e[1], e[2], e[3]), i);
        }
        Due.due("a set of six", new PartitionPlay(6).event(0, 0, 63, 0), 0);
        Due.due("a set of seven", new PartitionPlay(6).event(0, 0, 64, 0), OUTSIDE);
        Due.due("a set of two", new PartitionPlay(2).event(0, 0, 3, 0), 0);
        Due.due("a set of three of two", new PartitionPlay(2).event(0, 0, 4, 0), OUTSIDE);
    }

    private static void roomIsForTwenty() {
        PartitionPlay x = new PartitionPlay(2);
        for (int i = 0; i < 20; i++) {
            Due.due("event " + i, x.event(4, 0, i, 0), i);
        }
        String full = Face.ofSchedule(x);
        Due.due("one more", x.event(4, 0, 0, 0), ROOM);
        Due.dueText("it stays", Face.ofSchedule(x), full);
        Due.due("drop(19)", x.drop(19), 19);
        Due.due("room again", x.event(1, 1, 0, 0), 19);
        Due.due("full again", x.event(1, 1, 0, 0), ROOM);
    }

    private static void unknownAndOutsideComeBeforeRoom() {
        PartitionPlay x = new PartitionPlay(2);
        for (int i = 0; i < 20; i++) {
            x.event(1, i, 0, 0);
        }
        Due.due("an unknown kind", x.event(7, 0, 0, 0), UNKNOWN);
        Due.due("an unknown node", x.event(2, 0, 2, 0), UNKNOWN);
        Due.due("a turn outside", x.event(1, 40, 0, 0), OUTSIDE);
        Due.due("b outside", x.event(5, 0, 0, 0), OUTSIDE);
    }

    private static void dropMovesTheOthers() {
        PartitionPlay x = new PartitionPlay(2);
        x.event(0, 1, 1, 0);
        x.event(5, 0, 2, 4);
        x.event(2, 3, 1, 0);
        Due.due("drop(1)", x.drop(1), 2);
        Due.dueText("without the middle", Face.ofSchedule(x), "0,1,1,0;2,3,1,0;");
        Due.due("drop(2)", x.drop(2), UNKNOWN);
        Due.due("drop(0)", x.drop(0), 1);
        Due.dueText("without the first", Face.ofSchedule(x), "2,3,1,0;");
        Due.due("drop(0) again", x.drop(0), 0);
        Due.due("drop(0) of none", x.drop(0), UNKNOWN);
        Due.due("a dropped double does nothing", playedLetters(x), 1);
    }

    private static int playedLetters(PartitionPlay x) {
        x.play(3);
        return x.letter(2, 6);
    }

    private static void dropAndToldRefuse() {
        PartitionPlay x = new PartitionPlay(2);
        x.event(6, 0, 7, 2);
        Due.due("drop(-1)", x.drop(-1), UNKNOWN);
        Due.due("drop(1)", x.drop(1), UNKNOWN);
        Due.due("drop(20)", x.drop(20), UNKNOWN);
        Due.due("drop(least)", x.drop(LEAST), UNKNOWN);
        Due.due("told(-1, 0)", x.told(-1, 0), UNKNOWN);
        Due.due("told(1, 0)", x.told(1, 0), UNKNOWN);
        Due.due("told(20, 0)", x.told(20, 0), UNKNOWN);
        Due.due("told(0, -1)", x.told(0, -1), UNKNOWN);
        Due.due("told(0, 4)", x.told(0, 4), UNKNOWN);
        Due.dueText("it stays", Face.ofSchedule(x), "6,0,7,2;");
    }

    private static String text(int[] e) {
        return "event(" + e[0] + ", " + e[1] + ", " + e[2] + ", " + e[3] + ")";
    }
}
