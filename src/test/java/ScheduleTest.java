/** Promises 5 to 7, in ordinary use: event, drop, told. EdgesOfScheduleTest has their edges. */
public final class ScheduleTest {
    private static final int UNKNOWN = -2;
    private static final int LEAST = Integer.MIN_VALUE, MOST = Integer.MAX_VALUE;

    public static void main(String[] args) {
        eventsAreNumbered();
        whatAKindHasNotIsNotLookedAt();
        dropMovesTheOthers();
        Due.end();
    }

    private static void eventsAreNumbered() {
        PartitionPlay x = new PartitionPlay(4);
        Due.due("PART", x.event(0, 39, 15, 9), 0);
        Due.due("HEAL", x.event(1, 0, 7, 9), 1);
        Due.due("CRASH", x.event(2, 5, 3, 9), 2);
        Due.due("RISE", x.event(3, 6, 2, 9), 3);
        Due.due("LOSE", x.event(4, 8, 1199, 9), 4);
        Due.due("DOUBLE", x.event(5, 8, 17, 5), 5);
        Due.due("LATE", x.event(6, 8, 0, 1), 6);
        Due.dueText("as told", Face.ofSchedule(x),
            "0,39,15,0;1,0,0,0;2,5,3,0;3,6,2,0;4,0,1199,0;5,0,17,5;6,0,0,1;");
        Due.due("count(1)", x.count(1), 7);
    }

    private static void whatAKindHasNotIsNotLookedAt() {
        PartitionPlay x = new PartitionPlay(2);
        Due.due("PART without b", x.event(0, 1, 1, LEAST), 0);
        Due.due("HEAL without a and b", x.event(1, 2, MOST, LEAST), 1);
        Due.due("CRASH without b", x.event(2, 3, 1, MOST), 2);
        Due.due("RISE without b", x.event(3, 4, 0, -9), 3);
        Due.due("LOSE without turn and b", x.event(4, -1, 3, 6), 4);
        Due.due("DOUBLE without turn", x.event(5, 40, 4, 2), 5);
        Due.due("LATE without turn", x.event(6, LEAST, 5, 3), 6);
        Due.dueText("as told", Face.ofSchedule(x),
            "0,1,1,0;1,2,0,0;2,3,1,0;3,4,0,0;4,0,3,0;5,0,4,2;6,0,5,3;");
    }

    private static void dropMovesTheOthers() {
        PartitionPlay x = new PartitionPlay(2);
        x.event(0, 1, 1, 0);
        x.event(5, 0, 2, 4);
        x.event(2, 3, 1, 0);
        Due.due("drop(1)", x.drop(1), 2);
        Due.dueText("without the middle", Face.ofSchedule(x), "0,1,1,0;2,3,1,0;");
        Due.due("drop(2)", x.drop(2), UNKNOWN);
        Due.due("drop(0)", x.drop(0), 1);
        Due.dueText("without the first", Face.ofSchedule(x), "2,3,1,0;");
        Due.due("drop(0) again", x.drop(0), 0);
        Due.due("drop(0) of none", x.drop(0), UNKNOWN);
        Due.due("a dropped double does nothing", playedLetters(x), 1);
    }

    private static int playedLetters(PartitionPlay x) {
        x.play(3);
        return x.letter(2, 6);
    }
}
