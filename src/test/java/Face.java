/** All that an object answers about itself, as one text: two equal ones were in the same state, as far as can be asked. */
final class Face {
    private Face() {
    }

    static String ofSchedule(PartitionPlay x) {
        StringBuilder text = new StringBuilder();
        for (int event = 0; event < x.count(1); event++) {
            for (int what = 0; what < 4; what++) {
                text.append(x.told(event, what)).append(what < 3 ? ',' : ';');
            }
        }
        return text.toString();
    }

    static String ofPlay(PartitionPlay x) {
        StringBuilder text = new StringBuilder();
        for (int what = 2; what <= 6; what++) {
            text.append(x.count(what)).append(' ');
        }
        text.append("fails ").append(x.fails());
        for (int turn = 0; turn < x.count(2); turn++) {
            text.append('\n').append(turn).append(" holds ").append(x.holds(turn)).append(':');
            for (int node = 0; node < x.count(0); node++) {
                text.append(' ').append(x.height(turn, node));
            }
        }
        for (int k = 0; k < x.count(3); k++) {
            text.append("\nletter ").append(k).append(':');
            for (int what = 0; what <= 6; what++) {
                text.append(' ').append(x.letter(k, what));
            }
        }
        return text.append(ofEnds(x)).toString();
    }

    private static String ofEnds(PartitionPlay x) {
        StringBuilder text = new StringBuilder("\nreached");
        for (int rumour = 0; rumour < 8; rumour++) {
            text.append(' ').append(x.reached(rumour));
        }
        text.append("\nbytes");
        for (int node = 0; node < x.count(0); node++) {
            text.append(' ').append(x.bytes(node));
        }
        return text.toString();
    }

    /** Behaviours and delays: each is read by setting it, and set back. */
    static String ofSettings(PartitionPlay x) {
        StringBuilder text = new StringBuilder("behaviours");
        for (int node = 0; node < x.count(0); node++) {
            int kind = x.behaviour(node, 0);
            x.behaviour(node, kind);
            text.append(' ').append(kind);
        }
        text.append("\ndelays");
        for (int from = 0; from < x.count(0); from++) {
            for (int to = 0; to < x.count(0); to++) {
                int turns = x.delay(from, to, 1);
                x.delay(from, to, turns);
                text.append(' ').append(turns);
            }
        }
        return text.toString();
    }

    /** All that can be asked now, and, as that is the one way to see what was told, a play of one turn. */
    static String ofAllAndANewPlay(PartitionPlay x) {
        StringBuilder text = new StringBuilder();
        text.append(ofSettings(x)).append('\n').append(ofSchedule(x)).append('\n').append(ofPlay(x));
        x.play(1);
        return text.append("\nanew ").append(ofPlay(x)).toString();
    }

    /** Heights behind a turn, as "1,2,3". */
    static String heights(PartitionPlay x, int turn) {
        StringBuilder text = new StringBuilder();
        for (int node = 0; node < x.count(0); node++) {
            text.append(node == 0 ? "" : ",").append(x.height(turn, node));
        }
        return text.toString();
    }
}
