import java.util.ArrayList;
import java.util.List;
import java.util.Random;

/** All promises: long runs of calls, right and wrong ones, against a second, slow program written from the document. */
public final class ModelTest {
    private static final int UNKNOWN = -2, OUTSIDE = -3, STATE = -4, ROOM = -5;
    private static final int RUNS = 1500, CALLS = 100;

    private int n;
    private int[] behaviour;
    private int[][] delay;
    private boolean[][] told;
    private final List<int[]> events = new ArrayList<>();
    private Outcome shown;

    public static void main(String[] args) {
        int[] failures = new int[1];
        for (int run = 0; run < RUNS && Due.allRight(); run++) {
            new ModelTest().compare(run, failures);
        }
        Due.due("failing plays were among them", failures[0] > 1000 ? 1 : 0, 1);
        Due.end();
    }

    private void compare(int run, int[] failures) {
        Random random = new Random(run);
        int given = random.nextInt(10) == 0 ? random.nextInt(12) - 3 : 2 + random.nextInt(5);
        PartitionPlay x = new PartitionPlay(given);
        begin(given);
        StringBuilder story = new StringBuilder("new " + given);
        for (int call = 0; call < CALLS && Due.allRight(); call++) {
            int[] args = {near(random, n), near(random, 8), near(random, 8), near(random, 6)};
            ask(x, random, args, story);
            failures[0] += shown != null && shown.fails >= 0 ? 1 : 0;
        }
        if (shown != null) {
            Due.dueText("run " + run, Face.ofPlay(x), textOf(shown));
        }
    }

    private static int near(Random random, int bound) {
        return random.nextInt(12) == 0 ? random.nextInt(2) * (bound + 1) - 1 : random.nextInt(bound);
    }

    private void ask(PartitionPlay x, Random random, int[] a, StringBuilder story) {
        int choice = random.nextInt(22);
        int turn = near(random, 12);
        int letter = random.nextInt(3) == 0 ? near(random, 1200) : near(random, 24);
        String call;
        long got;
        long want;
        switch (choice) {
            case 0: { int k = near(random, 4); call = "behaviour " + a[0] + " " + k; got = x.behaviour(a[0], k); want = behaviour(a[0], k); break; }
            case 1: { int to = near(random, n); call = "delay " + a[0] + " " + to + " " + a[3]; got = x.delay(a[0], to, a[3]); want = delay(a[0], to, a[3]); break; }
            case 2: call = "tell " + a[0] + " " + a[1]; got = x.tell(a[0], a[1]); want = tell(a[0], a[1]); break;
            case 3: case 4: case 5: case 6: case 7: {
                int kind = near(random, 7);
                int at = random.nextInt(4) == 0 ? near(random, 40) : turn;
                int what = kind == 0 ? near(random, 1 << n) : kind < 4 ? a[0] : letter;
                call = "event " + kind + " " + at + " " + what + " " + a[3];
                got = x.event(kind, at, what, a[3]); want = event(kind, at, what, a[3]); break; }
            case 8: { int e = near(random, events.size() + 1); call = "drop " + e; got = x.drop(e); want = drop(e); break; }
            case 9: { int e = near(random, events.size() + 1); int w = near(random, 4); call = "told " + e + " " + w; got = x.told(e, w); want = told(e, w); break; }
            case 10: case 11: { int t = random.nextInt(4) == 0 ? near(random, 42) : 3 + turn; call = "play " + t; got = x.play(t); want = play(t); break; }
            case 12: call = "height " + turn + " " + a[0]; got = x.height(turn, a[0]); want = known(turn) && isNode(a[0]) ? shown.heights[turn][a[0]] : UNKNOWN; break;
            case 13: call = "holds " + turn; got = x.holds(turn); want = known(turn) ? (shown.held[turn] ? 1 : 0) : UNKNOWN; break;
            case 14: call = "fails"; got = x.fails(); want = shown == null ? STATE : shown.fails; break;
            case 15: call = "letter " + letter + " " + a[1]; got = x.letter(letter, a[1]); want = letter(letter, a[1]); break;
            case 16: call = "reached " + a[1]; got = x.reached(a[1]); want = a[1] < 0 || a[1] > 7 ? UNKNOWN : shown == null ? STATE : shown.reached(a[1]); break;
            case 17: call = "bytes " + a[0]; got = x.bytes(a[0]); want = !isNode(a[0]) ? UNKNOWN : shown == null ? STATE : shown.bytes(a[0]); break;
            case 18: call = "shrink"; got = x.shrink(); want = shrink(); break;
            case 19: call = "minimal"; got = x.minimal(); want = minimal(); break;
            case 20: { int k = near(random, 6); call = "sets " + k; got = x.sets(k); want = sets(k); break; }
            default: call = "count " + a[1]; got = x.count(a[1]); want = count(a[1]); break;
        }
        story.append("; ").append(call);
        Due.due(got == want ? call : story.toString(), got, want);
    }

    private void begin(int given) {
        n = given < 2 ? 2 : given > 6 ? 6 : given;
        behaviour = new int[n];
        delay = new int[n][n];
        for (int[] row : delay) {
            java.util.Arrays.fill(row, 1);
        }
        told = new boolean[n][8];
    }

    private boolean isNode(int node) {
        return node >= 0 && node < n;
    }

    private boolean known(int turn) {
        return shown != null && turn >= 0 && turn < shown.turns;
    }

    private int behaviour(int node, int kind) {
        if (!isNode(node)) return UNKNOWN;
        if (kind < 0 || kind > 3) return OUTSIDE;
        int before = behaviour[node];
        behaviour[node] = kind;
        return before;
    }

    private int delay(int from, int to, int turns) {
        if (!isNode(from) || !isNode(to) || from == to) return UNKNOWN;
        if (turns < 1 || turns > 5) return OUTSIDE;
        int before = delay[from][to];
        delay[from][to] = turns;
        return before;
    }

    private int tell(int node, int rumour) {
        if (!isNode(node) || rumour < 0 || rumour > 7) return UNKNOWN;
        told[node][rumour] = true;
        int sum = 0;
        for (boolean it : told[node]) sum += it ? 1 : 0;
        return sum;
    }

    private int event(int kind, int turn, int a, int b) {
        if (kind < 0 || kind > 6) return UNKNOWN;
        if ((kind == 2 || kind == 3) && !isNode(a)) return UNKNOWN;
        if (kind < 4 && (turn < 0 || turn > 39)) return OUTSIDE;
        if (kind == 0 && (a < 0 || a >= 1 << n)) return OUTSIDE;
        if (kind > 3 && (a < 0 || a > 1199)) return OUTSIDE;
        if (kind > 4 && (b < 1 || b > 5)) return OUTSIDE;
        if (events.size() == 20) return ROOM;
        events.add(new int[] {kind, kind < 4 ? turn : 0, kind == 1 ? 0 : a, kind > 4 ? b : 0});
        return events.size() - 1;
    }

    private int drop(int event) {
        if (event < 0 || event >= events.size()) return UNKNOWN;
        events.remove(event);
        return events.size();
    }

    private int told(int event, int what) {
        if (event < 0 || event >= events.size() || what < 0 || what > 3) return UNKNOWN;
        return events.get(event)[what];
    }

    private int play(int turns) {
        if (turns < 1 || turns > 40) return OUTSIDE;
        shown = new Outcome(turns, events);
        int greatest = 0;
        for (int height : shown.heights[turns - 1]) greatest = Math.max(greatest, height);
        return greatest;
    }

    private int letter(int k, int what) {
        if (shown == null || k < 0 || k >= shown.letters.size() || what < 0 || what > 6) return UNKNOWN;
        return shown.letters.get(k).told()[what];
    }

    private int shrink() {
        if (shown == null || new Outcome(shown.turns, events).fails < 0) return STATE;
        for (int i = events.size() - 1; i >= 0; i--) {
            List<int[]> fewer = without(i);
            if (new Outcome(shown.turns, fewer).fails >= 0) {
                events.clear();
                events.addAll(fewer);
            }
        }
        shown = new Outcome(shown.turns, events);
        return events.size();
    }

    private List<int[]> without(int event) {
        List<int[]> fewer = new ArrayList<>(events);
        fewer.remove(event);
        return fewer;
    }

    private int minimal() {
        if (shown == null) return STATE;
        if (new Outcome(shown.turns, events).fails < 0) return 0;
        for (int i = 0; i < events.size(); i++) {
            if (new Outcome(shown.turns, without(i)).fails >= 0) return 0;
        }
        return 1;
    }

    private int sets(int k) {
        if (k < 0 || k > 5) return OUTSIDE;
        if (shown == null) return STATE;
        int failing = 0;
        for (int set = 0; set < 1 << k; set++) {
            List<int[]> more = new ArrayList<>(events);
            for (int letter = 0; letter < k; letter++) {
                if ((set >> letter & 1) == 1) more.add(new int[] {4, 0, letter, 0});
            }
            failing += new Outcome(shown.turns, more).fails >= 0 ? 1 : 0;
        }
        return failing;
    }

    private int count(int what) {
        switch (what) {
            case 0: return n;
            case 1: return events.size();
            case 2: return shown == null ? 0 : shown.turns;
            case 3: return shown == null ? 0 : shown.letters.size();
            case 4: return shown == null ? 0 : shown.lost();
            case 5: return shown == null ? 0 : shown.taken;
            case 6: return shown == null ? 0 : shown.gone;
            default: return UNKNOWN;
        }
    }

    private String textOf(Outcome o) {
        StringBuilder text = new StringBuilder();
        text.append(o.turns + " " + o.letters.size() + " " + o.lost() + " " + o.taken + " " + o.gone + " fails " + o.fails);
        for (int turn = 0; turn < o.turns; turn++) {
            text.append("\n" + turn + " holds " + (o.held[turn] ? 1 : 0) + ":");
            for (int height : o.heights[turn]) text.append(" " + height);
        }
        for (int k = 0; k < o.letters.size(); k++) {
            text.append("\nletter " + k + ":");
            for (int value : o.letters.get(k).told()) text.append(" " + value);
        }
        text.append("\nreached");
        for (int rumour = 0; rumour < 8; rumour++) text.append(" " + o.reached(rumour));
        text.append("\nbytes");
        for (int node = 0; node < n; node++) text.append(" " + o.bytes(node));
        return text.toString();
    }

    private static final class Letter {
        int from, to, turn, height, rumours, taken;
        final List<Integer> comings = new ArrayList<>();

        int[] told() {
            return new int[] {from, to, turn, height, rumours, comings.isEmpty() ? -1 : comings.get(0), taken};
        }
    }

    /** A play of the model's settings, each turn looking at every letter. */
    private final class Outcome {
        final int turns;
        final List<int[]> schedule;
        final List<Letter> letters = new ArrayList<>();
        final int[][] heights;
        final boolean[] held;
        final int[] height = new int[n], rumours = new int[n], group = new int[n];
        final int[][] shownBy = new int[n][n];
        final boolean[] down = new boolean[n];
        int fails = -1, taken, gone;

        Outcome(int turns, List<int[]> schedule) {
            this.turns = turns;
            this.schedule = schedule;
            heights = new int[turns][];
            held = new boolean[turns];
            for (int node = 0; node < n; node++) {
                for (int r = 0; r < 8; r++) rumours[node] += told[node][r] ? 1 << r : 0;
            }
            for (int turn = 0; turn < turns; turn++) {
                happen(turn);
                come(turn);
                growAndSend(turn);
                heights[turn] = height.clone();
                held[turn] = rule();
                if (!held[turn] && fails < 0) fails = turn;
            }
        }

        private void happen(int turn) {
            for (int[] e : schedule) {
                if (e[0] > 3 || e[1] != turn) continue;
                for (int node = 0; node < n; node++) {
                    if (e[0] == 0) group[node] = e[2] >> node & 1;
                    if (e[0] == 1) group[node] = 0;
                    if (e[0] == 2 && node == e[2]) down[node] = true;
                    if (e[0] == 3 && node == e[2] && down[node]) {
                        down[node] = false;
                        shownBy[node] = new int[n];
                    }
                }
            }
        }

        private void come(int turn) {
            for (Letter l : letters) {
                for (int at : l.comings) {
                    if (at != turn) continue;
                    if (down[l.to] || group[l.from] != group[l.to]) {
                        gone++;
                        continue;
                    }
                    taken++;
                    l.taken++;
                    if (l.height > shownBy[l.to][l.from]) shownBy[l.to][l.from] = l.height;
                    rumours[l.to] |= l.rumours;
                }
            }
        }

        private void growAndSend(int turn) {
            for (int node = 0; node < n; node++) {
                if (down[node]) continue;
                int enough = 1;
                for (int other = 0; other < n; other++) {
                    if (other != node && shownBy[node][other] >= height[node]) enough++;
                }
                boolean grew = enough > n / 2;
                if (grew) height[node]++;
                if (behaviour[node] != 2 && (grew || turn % 4 == 0)) {
                    for (int to = 0; to < n; to++) {
                        if (to != node) send(node, to, turn);
                    }
                }
            }
        }

        private void send(int from, int to, int turn) {
            Letter l = new Letter();
            l.from = from;
            l.to = to;
            l.turn = turn;
            l.height = behaviour[from] == 1 ? height[from] + 3 : behaviour[from] == 3 ? 0 : height[from];
            l.rumours = rumours[from];
            int first = turn + delay[from][to];
            boolean lost = false;
            for (int[] e : schedule) {
                if (e[0] == 6 && e[2] == letters.size()) first += e[3];
                if (e[0] == 4 && e[2] == letters.size()) lost = true;
            }
            if (!lost) {
                l.comings.add(first);
                for (int[] e : schedule) {
                    if (e[0] == 5 && e[2] == letters.size()) l.comings.add(first + e[3]);
                }
            }
            letters.add(l);
        }

        private boolean rule() {
            int top = 0;
            for (int node = 0; node < n; node++) {
                if (behaviour[node] == 0 && height[node] > top) top = height[node];
            }
            int near = 0;
            for (int h : height) near += h >= top - 1 ? 1 : 0;
            return top == 0 || near > n / 2;
        }

        int lost() {
            int sum = 0;
            for (Letter l : letters) sum += l.comings.isEmpty() ? 1 : 0;
            return sum;
        }

        int reached(int rumour) {
            int sum = 0;
            for (int known : rumours) sum += known >> rumour & 1;
            return sum;
        }

        int bytes(int node) {
            int sum = 0;
            for (Letter l : letters) sum += l.from == node ? 4 + Integer.bitCount(l.rumours) : 0;
            return sum;
        }
    }
}
