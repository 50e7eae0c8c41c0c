import java.util.Arrays;

/**
 * Nodes that tell one another their heights and rumours over a net played turn by turn.
 * The words in capitals are those of the document (DOC.md).
 */
public final class PartitionPlay {
    public static final int NONE = -1, UNKNOWN = -2, OUTSIDE = -3, STATE = -4, ROOM = -5;

    private static final int LEAST_NODES = 2, MOST_NODES = 6;
    private static final int MOST_TURNS = 40;
    private static final int MOST_EVENTS = 20;
    /** Each of 6 nodes writes to 5 others in each of 40 turns. */
    private static final int MOST_LETTERS = 1200;
    /** Each letter comes once, and once more for each event that doubles one. */
    private static final int MOST_COMINGS = MOST_LETTERS + MOST_EVENTS;
    private static final int RUMOURS = 8;
    private static final int LEAST_WAIT = 1, MOST_WAIT = 5;
    private static final int MOST_IN_SETS = 5;
    private static final int TURNS_BETWEEN_REMINDERS = 4;
    private static final int BOAST = 3;
    private static final int BYTES_OF_A_LETTER = 4;

    private static final int HONEST = 0, BOASTS = 1, KEEPS_STILL = 2, FORGETS = 3;
    private static final int PART = 0, HEAL = 1, CRASH = 2, RISE = 3, LOSE = 4, DOUBLE = 5, LATE = 6;

    private final Net net;
    private final Schedule schedule;
    /** THE PLAY; with 0 turns there is none. */
    private final Play shownPlay;
    /** Plays what THE PLAY must not be changed by. */
    private final Play trial;

    public PartitionPlay(int nodes) {
        net = new Net(Math.max(LEAST_NODES, Math.min(MOST_NODES, nodes)));
        schedule = new Schedule();
        shownPlay = new Play(net, schedule, false);
        trial = new Play(net, schedule, true);
    }

    public int behaviour(int node, int kind) {
        if (!net.has(node)) {
            return UNKNOWN;
        }
        if (kind < HONEST || kind > FORGETS) {
            return OUTSIDE;
        }
        int before = net.behaviours[node];
        net.behaviours[node] = kind;
        return before;
    }

    public int delay(int from, int to, int turns) {
        if (!net.has(from) || !net.has(to) || from == to) {
            return UNKNOWN;
        }
        if (!isWait(turns)) {
            return OUTSIDE;
        }
        int before = net.delays[pair(from, to)];
        net.delays[pair(from, to)] = turns;
        return before;
    }

    public int tell(int node, int rumour) {
        if (!net.has(node) || !isRumour(rumour)) {
            return UNKNOWN;
        }
        net.rumours[node] |= 1 << rumour;
        return Integer.bitCount(net.rumours[node]);
    }

    public int event(int kind, int turn, int a, int b) {
        if (kind < PART || kind > LATE || namesNode(kind) && !net.has(a)) {
            return UNKNOWN;
        }
        if (isTimed(kind) && !isTurn(turn) || kind == PART && !net.hasAllOf(a)) {
            return OUTSIDE;
        }
        if (namesLetter(kind) && !isLetter(a) || hasWait(kind) && !isWait(b)) {
            return OUTSIDE;
        }
        return schedule.add(kind, isTimed(kind) ? turn : 0, kind == HEAL ? 0 : a, hasWait(kind) ? b : 0);
    }

    public int drop(int event) {
        if (!schedule.has(event)) {
            return UNKNOWN;
        }
        schedule.remove(event);
        return schedule.size;
    }

    public int told(int event, int what) {
        if (!schedule.has(event)) {
            return UNKNOWN;
        }
        switch (what) {
            case 0: return schedule.kinds[event];
            case 1: return schedule.turns[event];
            case 2: return schedule.as[event];
            case 3: return schedule.bs[event];
            default: return UNKNOWN;
        }
    }

    public int play(int turns) {
        if (turns < 1 || turns > MOST_TURNS) {
            return OUTSIDE;
        }
        shownPlay.run(turns, 0);
        return shownPlay.nodes.greatestHeight();
    }

    public int height(int turn, int node) {
        if (!shownPlay.hasTurn(turn) || !net.has(node)) {
            return UNKNOWN;
        }
        return shownPlay.heights[place(turn, node)];
    }

    public int holds(int turn) {
        if (!shownPlay.hasTurn(turn)) {
            return UNKNOWN;
        }
        return shownPlay.held[turn] ? 1 : 0;
    }

    public int fails() {
        return shownPlay.turns == 0 ? STATE : shownPlay.failedAt;
    }

    public int letter(int k, int what) {
        Letters letters = shownPlay.letters;
        if (!letters.has(k)) {
            return UNKNOWN;
        }
        switch (what) {
            case 0: return letters.senders[k];
            case 1: return letters.receivers[k];
            case 2: return letters.turns[k];
            case 3: return letters.heights[k];
            case 4: return letters.rumours[k];
            case 5: return letters.firstComings[k];
            case 6: return letters.takenIn[k];
            default: return UNKNOWN;
        }
    }

    public int reached(int rumour) {
        if (!isRumour(rumour)) {
            return UNKNOWN;
        }
        return shownPlay.turns == 0 ? STATE : shownPlay.nodes.thatKnow(rumour);
    }

    public int bytes(int node) {
        if (!net.has(node)) {
            return UNKNOWN;
        }
        return shownPlay.turns == 0 ? STATE : shownPlay.letters.bytesFrom(node);
    }

    public int shrink() {
        int turns = shownPlay.turns;
        if (turns == 0 || !trial.run(turns, 0)) {
            return STATE;
        }
        for (int event = schedule.size - 1; event >= 0; event--) {
            schedule.leftOut[event] = true;
            schedule.leftOut[event] = trial.run(turns, 0);
        }
        schedule.removeLeftOut();
        shownPlay.run(turns, 0);
        return schedule.size;
    }

    public int minimal() {
        int turns = shownPlay.turns;
        if (turns == 0) {
            return STATE;
        }
        boolean least = trial.run(turns, 0);
        for (int event = 0; event < schedule.size && least; event++) {
            schedule.leftOut[event] = true;
            least = !trial.run(turns, 0);
            schedule.leftOut[event] = false;
        }
        return least ? 1 : 0;
    }

    public int sets(int k) {
        if (k < 0 || k > MOST_IN_SETS) {
            return OUTSIDE;
        }
        if (shownPlay.turns == 0) {
            return STATE;
        }
        int failing = 0;
        for (int set = 0; set < 1 << k; set++) {
            if (trial.run(shownPlay.turns, set)) {
                failing++;
            }
        }
        return failing;
    }

    public int count(int what) {
        switch (what) {
            case 0: return net.size;
            case 1: return schedule.size;
            case 2: return shownPlay.turns;
            case 3: return shownPlay.letters.size;
            case 4: return shownPlay.letters.lost;
            case 5: return shownPlay.taken;
            case 6: return shownPlay.gone;
            default: return UNKNOWN;
        }
    }

    private static boolean isWait(int turns) {
        return turns >= LEAST_WAIT && turns <= MOST_WAIT;
    }

    private static boolean isRumour(int rumour) {
        return rumour >= 0 && rumour < RUMOURS;
    }

    private static boolean isTurn(int turn) {
        return turn >= 0 && turn < MOST_TURNS;
    }

    private static boolean isLetter(int k) {
        return k >= 0 && k < MOST_LETTERS;
    }

    private static boolean isTimed(int kind) {
        return kind <= RISE;
    }

    private static boolean namesNode(int kind) {
        return kind == CRASH || kind == RISE;
    }

    private static boolean namesLetter(int kind) {
        return kind >= LOSE;
    }

    private static boolean hasWait(int kind) {
        return kind == DOUBLE || kind == LATE;
    }

    /** Where a row over pairs of nodes holds this pair. */
    private static int pair(int one, int other) {
        return one * MOST_NODES + other;
    }

    /** Where a row over turns and nodes holds this node's. */
    private static int place(int turn, int node) {
        return turn * MOST_NODES + node;
    }

    /** What is set of the NODES, for all plays. */
    private static final class Net {
        final int size;
        final int[] behaviours = new int[MOST_NODES];
        final int[] delays = new int[MOST_NODES * MOST_NODES];
        final int[] rumours = new int[MOST_NODES];

        Net(int size) {
            this.size = size;
            Arrays.fill(delays, LEAST_WAIT);
        }

        boolean has(int node) {
            return node >= 0 && node < size;
        }

        boolean hasAllOf(int set) {
            return (set & -(1 << size)) == 0;
        }

        boolean isMoreThanHalf(int some) {
            return 2 * some > size;
        }

        /** What a NODE of this HEIGHT writes of itself. */
        int heightSaid(int node, int height) {
            switch (behaviours[node]) {
                case BOASTS: return height + BOAST;
                case FORGETS: return 0;
                default: return height;
            }
        }
    }

    /** THE SCHEDULE; what an EVENT's kind does not have is kept as 0. */
    private static final class Schedule {
        int size;
        final int[] kinds = new int[MOST_EVENTS];
        final int[] turns = new int[MOST_EVENTS];
        final int[] as = new int[MOST_EVENTS];
        final int[] bs = new int[MOST_EVENTS];
        /** EVENTS that plays go without for now. */
        final boolean[] leftOut = new boolean[MOST_EVENTS];
        /** How many EVENTS name a LETTER: few do, so that most need no look at the EVENTS. */
        private final int[] namings = new int[MOST_LETTERS];

        boolean has(int event) {
            return event >= 0 && event < size;
        }

        /** The new EVENT's number, or ROOM. */
        int add(int kind, int turn, int a, int b) {
            if (size >= MOST_EVENTS) {
                return ROOM;
            }
            kinds[size] = kind;
            turns[size] = turn;
            as[size] = a;
            bs[size] = b;
            leftOut[size] = false;
            countNaming(size, 1);
            return size++;
        }

        void remove(int event) {
            if (!has(event)) {
                return;
            }
            countNaming(event, -1);
            size--;
            for (int i = event; i < size; i++) {
                kinds[i] = kinds[i + 1];
                turns[i] = turns[i + 1];
                as[i] = as[i + 1];
                bs[i] = bs[i + 1];
                leftOut[i] = leftOut[i + 1];
            }
        }

        void removeLeftOut() {
            for (int event = size - 1; event >= 0; event--) {
                if (leftOut[event]) {
                    remove(event);
                }
            }
        }

        private void countNaming(int event, int change) {
            if (namesLetter(kinds[event]) && isLetter(as[event])) {
                namings[as[event]] += change;
            }
        }

        boolean names(int letter) {
            return isLetter(letter) && namings[letter] > 0;
        }

        boolean happensAt(int event, int turn) {
            return !leftOut[event] && isTimed(kinds[event]) && turns[event] == turn;
        }

        boolean does(int event, int kind, int letter) {
            return !leftOut[event] && kinds[event] == kind && as[event] == letter;
        }

        boolean loses(int letter) {
            for (int event = 0; event < size; event++) {
                if (does(event, LOSE, letter)) {
                    return true;
                }
            }
            return false;
        }

        int lateness(int letter) {
            int late = 0;
            for (int event = 0; event < size; event++) {
                if (does(event, LATE, letter)) {
                    late += bs[event];
                }
            }
            return late;
        }
    }

    /** The LETTERS that were sent in a play, by their numbers. */
    private static final class Letters {
        int size;
        int lost;
        final int[] senders = new int[MOST_LETTERS];
        final int[] receivers = new int[MOST_LETTERS];
        final int[] turns = new int[MOST_LETTERS];
        final int[] heights = new int[MOST_LETTERS];
        final int[] rumours = new int[MOST_LETTERS];
        /** The TURN at which a LETTER comes first, or NONE. */
        final int[] firstComings = new int[MOST_LETTERS];
        final int[] takenIn = new int[MOST_LETTERS];

        boolean has(int letter) {
            return letter >= 0 && letter < size;
        }

        void clear() {
            size = 0;
            lost = 0;
        }

        /** The new LETTER's number, or NONE where there is no room for it. */
        int add(int from, int to, int turn, int height, int known) {
            if (size >= MOST_LETTERS) {
                return NONE;
            }
            senders[size] = from;
            receivers[size] = to;
            turns[size] = turn;
            heights[size] = height;
            rumours[size] = known;
            firstComings[size] = NONE;
            takenIn[size] = 0;
            return size++;
        }

        int bytesFrom(int node) {
            int sum = 0;
            for (int k = 0; k < size; k++) {
                if (senders[k] == node) {
                    sum += BYTES_OF_A_LETTER + Integer.bitCount(rumours[k]);
                }
            }
            return sum;
        }
    }

    /**
     * What comes at each TURN, as a chain of comings. They are added as LETTERS are sent,
     * each at its chain's end, so that a chain goes by the LETTERS' numbers.
     */
    private static final class Comings {
        private int size;
        private final int[] letters = new int[MOST_COMINGS];
        private final int[] followers = new int[MOST_COMINGS];
        private final int[] firsts = new int[MOST_TURNS];
        private final int[] lasts = new int[MOST_TURNS];

        void clear() {
            size = 0;
            Arrays.fill(firsts, NONE);
            Arrays.fill(lasts, NONE);
        }

        /** What comes behind all turns that a play can have is not kept. */
        void add(int letter, int turn) {
            if (turn < 0 || turn >= MOST_TURNS || size >= MOST_COMINGS) {
                return;
            }
            letters[size] = letter;
            followers[size] = NONE;
            if (lasts[turn] == NONE) {
                firsts[turn] = size;
            } else {
                followers[lasts[turn]] = size;
            }
            lasts[turn] = size;
            size++;
        }

        int firstAt(int turn) {
            return isTurn(turn) ? firsts[turn] : NONE;
        }

        boolean has(int coming) {
            return coming >= 0 && coming < size;
        }

        int behind(int coming) {
            return has(coming) ? followers[coming] : NONE;
        }

        int letterOf(int coming) {
            return has(coming) ? letters[coming] : NONE;
        }
    }

    /** The NODES in a play. */
    private static final class Nodes {
        private final Net net;
        final int[] heights = new int[MOST_NODES];
        final int[] known = new int[MOST_NODES];
        final boolean[] up = new boolean[MOST_NODES];
        final boolean[] grew = new boolean[MOST_NODES];
        /** The greatest HEIGHT that the pair's first NODE was SHOWN by its second. */
        private final int[] shown = new int[MOST_NODES * MOST_NODES];
        /** One GROUP as a set: the NODES outside it are the other one. */
        private int group;

        Nodes(Net net) {
            this.net = net;
        }

        void begin() {
            Arrays.fill(shown, 0);
            for (int node = 0; node < net.size; node++) {
                heights[node] = 0;
                known[node] = net.rumours[node];
                up[node] = true;
            }
            group = 0;
        }

        void meet(int kind, int a) {
            if (kind == PART) {
                group = a;
            } else if (kind == HEAL) {
                group = 0;
            } else if (kind == CRASH && net.has(a)) {
                up[a] = false;
            } else if (kind == RISE && net.has(a) && !up[a]) {
                up[a] = true;
                forgetShown(a);
            }
        }

        private void forgetShown(int node) {
            for (int other = 0; other < net.size; other++) {
                shown[pair(node, other)] = 0;
            }
        }

        boolean canReach(int from, int to) {
            return up[to] && (group >> from & 1) == (group >> to & 1);
        }

        void takeIn(int from, int to, int height, int rumours) {
            int at = pair(to, from);
            shown[at] = Math.max(shown[at], height);
            known[to] |= rumours;
        }

        void grow() {
            for (int node = 0; node < net.size; node++) {
                grew[node] = up[node] && net.isMoreThanHalf(thatShowedEnoughTo(node));
                if (grew[node]) {
                    heights[node]++;
                }
            }
        }

        private int thatShowedEnoughTo(int node) {
            int enough = 0;
            for (int other = 0; other < net.size; other++) {
                if (other == node || shown[pair(node, other)] >= heights[node]) {
                    enough++;
                }
            }
            return enough;
        }

        boolean keepTheRule() {
            int top = 0;
            for (int node = 0; node < net.size; node++) {
                if (net.behaviours[node] == HONEST) {
                    top = Math.max(top, heights[node]);
                }
            }
            return top == 0 || net.isMoreThanHalf(noLowerThan(top - 1));
        }

        private int noLowerThan(int least) {
            int some = 0;
            for (int node = 0; node < net.size; node++) {
                if (heights[node] >= least) {
                    some++;
                }
            }
            return some;
        }

        int greatestHeight() {
            int greatest = 0;
            for (int node = 0; node < net.size; node++) {
                greatest = Math.max(greatest, heights[node]);
            }
            return greatest;
        }

        int thatKnow(int rumour) {
            int some = 0;
            for (int node = 0; node < net.size; node++) {
                some += known[node] >> rumour & 1;
            }
            return some;
        }
    }

    /** A PLAY and what stays of it to be asked for; its rows are used again by the next one. */
    private static final class Play {
        private final Net net;
        private final Schedule schedule;
        /** One that is asked for its failure alone needs no turns behind it. */
        private final boolean stopsAtFailure;
        private final Comings comings = new Comings();
        final Nodes nodes;
        final Letters letters = new Letters();
        final int[] heights = new int[MOST_TURNS * MOST_NODES];
        final boolean[] held = new boolean[MOST_TURNS];
        int turns;
        int failedAt = NONE;
        int taken;
        int gone;
        /** LETTERS that are LOST besides those of THE SCHEDULE, as bits. */
        private int alsoLost;

        Play(Net net, Schedule schedule, boolean stopsAtFailure) {
            this.net = net;
            this.schedule = schedule;
            this.stopsAtFailure = stopsAtFailure;
            nodes = new Nodes(net);
        }

        boolean hasTurn(int turn) {
            return turn >= 0 && turn < turns;
        }

        /** Whether it FAILED. */
        boolean run(int wanted, int lostSet) {
            begin(wanted, lostSet);
            for (int turn = 0; turn < turns; turn++) {
                meetEvents(turn);
                takeInComings(turn);
                nodes.grow();
                sendLetters(turn);
                keepRecord(turn);
                if (stopsAtFailure && failedAt != NONE) {
                    break;
                }
            }
            return failedAt != NONE;
        }

        private void begin(int wanted, int lostSet) {
            turns = Math.min(wanted, MOST_TURNS);
            alsoLost = lostSet;
            failedAt = NONE;
            taken = 0;
            gone = 0;
            letters.clear();
            comings.clear();
            nodes.begin();
        }

        private void meetEvents(int turn) {
            for (int event = 0; event < schedule.size; event++) {
                if (schedule.happensAt(event, turn)) {
                    nodes.meet(schedule.kinds[event], schedule.as[event]);
                }
            }
        }

        private void takeInComings(int turn) {
            int coming = comings.firstAt(turn);
            for (int i = 0; i < MOST_COMINGS && coming != NONE; i++) {
                takeIn(comings.letterOf(coming));
                coming = comings.behind(coming);
            }
        }

        private void takeIn(int letter) {
            if (!letters.has(letter)) {
                return;
            }
            int from = letters.senders[letter];
            int to = letters.receivers[letter];
            if (!nodes.canReach(from, to)) {
                gone++;
                return;
            }
            nodes.takeIn(from, to, letters.heights[letter], letters.rumours[letter]);
            letters.takenIn[letter]++;
            taken++;
        }

        private void sendLetters(int turn) {
            boolean reminds = turn % TURNS_BETWEEN_REMINDERS == 0;
            for (int node = 0; node < net.size; node++) {
                boolean writes = nodes.up[node] && net.behaviours[node] != KEEPS_STILL;
                if (writes && (reminds || nodes.grew[node])) {
                    sendFrom(node, turn);
                }
            }
        }

        private void sendFrom(int node, int turn) {
            int height = net.heightSaid(node, nodes.heights[node]);
            for (int to = 0; to < net.size; to++) {
                if (to != node) {
                    int letter = letters.add(node, to, turn, height, nodes.known[node]);
                    post(letter, turn + net.delays[pair(node, to)]);
                }
            }
        }

        private void post(int letter, int due) {
            if (!letters.has(letter)) {
                return;
            }
            boolean named = schedule.names(letter);
            if (isAlsoLost(letter) || named && schedule.loses(letter)) {
                letters.lost++;
                return;
            }
            int first = named ? due + schedule.lateness(letter) : due;
            letters.firstComings[letter] = first;
            comings.add(letter, first);
            if (named) {
                postDoubles(letter, first);
            }
        }

        private boolean isAlsoLost(int letter) {
            return letter < MOST_IN_SETS && (alsoLost >> letter & 1) != 0;
        }

        private void postDoubles(int letter, int first) {
            for (int event = 0; event < schedule.size; event++) {
                if (schedule.does(event, DOUBLE, letter)) {
                    comings.add(letter, first + schedule.bs[event]);
                }
            }
        }

        private void keepRecord(int turn) {
            for (int node = 0; node < net.size; node++) {
                heights[place(turn, node)] = nodes.heights[node];
            }
            held[turn] = nodes.keepTheRule();
            if (!held[turn] && failedAt == NONE) {
                failedAt = turn;
            }
        }
    }
}
