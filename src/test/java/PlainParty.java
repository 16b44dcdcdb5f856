import java.util.ArrayDeque;
import java.util.ArrayList;
import java.util.Arrays;
import java.util.HashMap;
import java.util.List;
import java.util.Map;

/**
 * The document once more, as plainly as can be and without regard to speed: the search is played
 * anew from its orders for each question, what is lost is kept for caves and for passages, and plans
 * are found by their distance from the end. It shares no way of working with CaveParty.
 */
final class PlainParty {
    static final int NONE = -1;

    private int n = 0;
    private final int[][] ends = new int[18][];
    private int mouth = 0;
    private final List<Integer> layout = new ArrayList<>();
    private final List<int[]> done = new ArrayList<>();
    private List<int[]> plan = null;

    /** What is below in each cave, what is lost, and whether a slide was done. */
    private static final class State {
        int[] below = new int[12];
        boolean[] lostCave = new boolean[12];
        boolean[] lostPassage = new boolean[18];
        boolean slid;

        State copy() {
            State s = new State();
            s.below = below.clone();
            s.lostCave = lostCave.clone();
            s.lostPassage = lostPassage.clone();
            s.slid = slid;
            return s;
        }

        int total() {
            return Arrays.stream(below).sum();
        }

        boolean allSearched() {
            for (boolean lost : lostCave) {
                if (lost) {
                    return false;
                }
            }
            for (boolean lost : lostPassage) {
                if (lost) {
                    return false;
                }
            }
            return true;
        }

        String key(int law) {
            return Arrays.toString(below) + Arrays.toString(lostCave) + Arrays.toString(lostPassage)
                + (law == 1 && slid);
        }
    }

    private State beginning() {
        State s = new State();
        for (int c = 0; c < n; c++) {
            s.lostCave[c] = true;
        }
        for (int p = 0; p < 18; p++) {
            s.lostPassage[p] = ends[p] != null;
        }
        return s;
    }

    private boolean isAt(int p, int c) {
        return p >= 0 && p < 18 && ends[p] != null && (ends[p][0] == c || ends[p][1] == c);
    }

    private State behind(State before, int what, int c, int p) {
        State s = before.copy();
        if (what == 0) {
            s.below[c]++;
        } else {
            s.below[c]--;
        }
        if (what >= 2) {
            s.below[ends[p][0] == c ? ends[p][1] : ends[p][0]]++;
            s.lostPassage[p] = false;
            s.slid = true;
        }
        for (int q = 0; q < 18; q++) {
            if (ends[q] != null && s.below[ends[q][0]] > 0 && s.below[ends[q][1]] > 0) {
                s.lostPassage[q] = false;
            }
        }
        for (int d = 0; d < n; d++) {
            if (s.below[d] > 0) {
                s.lostCave[d] = false;
            }
        }
        for (int round = 0; round < 40; round++) {
            for (int q = 0; q < 18; q++) {
                if (ends[q] == null) {
                    continue;
                }
                for (int d : ends[q]) {
                    if (s.below[d] == 0 && s.lostPassage[q]) {
                        s.lostCave[d] = true;
                    }
                    if (s.lostCave[d]) {
                        s.lostPassage[q] = true;
                    }
                }
            }
        }
        return s;
    }

    private List<State> states() {
        List<State> all = new ArrayList<>();
        all.add(beginning());
        for (int[] o : done) {
            all.add(behind(all.get(all.size() - 1), o[0], o[1], o[2]));
        }
        return all;
    }

    private State now() {
        List<State> all = states();
        return all.get(all.size() - 1);
    }

    private boolean cave(int c) {
        return c >= 0 && c < n;
    }

    private void changed() {
        done.clear();
        plan = null;
    }

    boolean caves(int count) {
        if (count < 0 || count > 12) {
            return false;
        }
        n = count;
        Arrays.fill(ends, null);
        mouth = 0;
        layout.clear();
        for (int c = 0; c < n; c++) {
            layout.add(c);
        }
        changed();
        return true;
    }

    int passage(int a, int b) {
        if (!cave(a) || !cave(b) || a == b) {
            return NONE;
        }
        for (int p = 0; p < 18; p++) {
            if (ends[p] == null) {
                ends[p] = new int[] {a, b};
                changed();
                return p;
            }
        }
        return NONE;
    }

    boolean drop(int p) {
        if (p < 0 || p >= 18 || ends[p] == null) {
            return false;
        }
        ends[p] = null;
        changed();
        return true;
    }

    boolean mouth(int c) {
        if (!cave(c)) {
            return false;
        }
        mouth = c;
        return true;
    }

    int order(int what, int c, int p) {
        if (what < 0 || what > 3 || !cave(c) || (what >= 2 && !isAt(p, c)) || done.size() >= 200) {
            return NONE;
        }
        State before = now();
        if (what == 0 ? before.total() >= 9 : before.below[c] == 0) {
            return 0;
        }
        State after = behind(before, what, c, p);
        if (what == 3) {
            for (int d = 0; d < 12; d++) {
                if (after.lostCave[d] && !before.lostCave[d]) {
                    return 0;
                }
            }
            for (int q = 0; q < 18; q++) {
                if (after.lostPassage[q] && !before.lostPassage[q]) {
                    return 0;
                }
            }
        }
        done.add(new int[] {what, c, p});
        return 1;
    }

    boolean undo() {
        if (done.isEmpty()) {
            return false;
        }
        done.remove(done.size() - 1);
        return true;
    }

    void anew() {
        done.clear();
    }

    private static int trues(boolean[] row) {
        int found = 0;
        for (boolean b : row) {
            found += b ? 1 : 0;
        }
        return found;
    }

    private int passages() {
        int found = 0;
        for (int[] e : ends) {
            found += e != null ? 1 : 0;
        }
        return found;
    }

    private int parts() {
        int[] name = new int[n];
        for (int c = 0; c < n; c++) {
            name[c] = c;
        }
        int parts = n;
        for (int[] e : ends) {
            if (e != null && name[e[0]] != name[e[1]]) {
                int old = name[e[1]];
                int now = name[e[0]];
                for (int c = 0; c < n; c++) {
                    name[c] = name[c] == old ? now : name[c];
                }
                parts--;
            }
        }
        return parts;
    }

    int count(int what) {
        switch (what) {
            case 0: return done.size();
            case 1: return now().total();
            case 2: {
                int most = 0;
                for (State s : states()) {
                    most = Math.max(most, s.total());
                }
                return most;
            }
            case 3: return trues(now().lostCave);
            case 4: return trues(now().lostPassage);
            case 5: return now().allSearched() ? 1 : 0;
            case 6: return n;
            case 7: return passages();
            case 8: return mouth;
            case 9: return parts();
            case 10: return parts() == 1 && passages() == n - 1 ? 1 : 0;
            default: return NONE;
        }
    }

    int look(int which, int what) {
        if (what >= 0 && what <= 3) {
            if (!cave(which)) {
                return NONE;
            }
            int at = 0;
            for (int p = 0; p < 18; p++) {
                at += isAt(p, which) ? 1 : 0;
            }
            switch (what) {
                case 0: return now().below[which];
                case 1: return now().lostCave[which] ? 1 : 0;
                case 2: return at;
                default: return layout.indexOf(which);
            }
        }
        if (what < 4 || what > 7 || which < 0 || which >= 18 || ends[which] == null) {
            return NONE;
        }
        List<State> all = states();
        boolean lost = all.get(all.size() - 1).lostPassage[which];
        switch (what) {
            case 4: return Math.min(ends[which][0], ends[which][1]);
            case 5: return Math.max(ends[which][0], ends[which][1]);
            case 6: return lost ? 1 : 0;
            default: return all.size() > 1 && lost && !all.get(all.size() - 2).lostPassage[which] ? 1 : 0;
        }
    }

    private boolean mayFollow(State s, int law, int what, int c) {
        switch (law) {
            case 0: return true;
            case 1: return what != 1 && !(what == 0 && s.slid);
            default: return what != 1 && !(what == 0 && c != mouth);
        }
    }

    private boolean hangs(State s) {
        boolean[] reached = new boolean[12];
        reached[mouth] = true;
        for (int round = 0; round < 20; round++) {
            for (int p = 0; p < 18; p++) {
                if (ends[p] != null && !s.lostPassage[p] && (reached[ends[p][0]] || reached[ends[p][1]])) {
                    reached[ends[p][0]] = true;
                    reached[ends[p][1]] = true;
                }
            }
        }
        for (int c = 0; c < n; c++) {
            if (s.below[c] > 0 && !reached[c]) {
                return false;
            }
        }
        for (int p = 0; p < 18; p++) {
            if (ends[p] != null && !s.lostPassage[p] && !reached[ends[p][0]]) {
                return false;
            }
        }
        return true;
    }

    /** A stand with the orders that lead from it, the least first, and how far it is from the end. */
    private static final class Node {
        final State state;
        final List<int[]> orders = new ArrayList<>();
        final List<Node> behind = new ArrayList<>();
        final List<Node> ahead = new ArrayList<>();
        int far = NONE;

        Node(State state) {
            this.state = state;
        }
    }

    private List<int[]> possible(State s, int law, int k) {
        List<int[]> found = new ArrayList<>();
        for (int what = 0; what <= 2; what++) {
            for (int c = 0; c < n; c++) {
                boolean can = what == 0 ? s.total() < k : s.below[c] > 0;
                if (!can || !mayFollow(s, law, what, c)) {
                    continue;
                }
                for (int p = what == 2 ? 0 : 17; p < 18; p++) {
                    if (what < 2 || isAt(p, c)) {
                        found.add(new int[] {what, c, what < 2 ? NONE : p});
                    }
                }
            }
        }
        return found;
    }

    private List<Node> net(int law, int k) {
        Map<String, Node> known = new HashMap<>();
        List<Node> all = new ArrayList<>();
        Node first = new Node(beginning());
        known.put(first.state.key(law), first);
        all.add(first);
        for (int i = 0; i < all.size(); i++) {
            Node node = all.get(i);
            if (node.state.allSearched()) {
                continue;
            }
            for (int[] o : possible(node.state, law, k)) {
                State s = behind(node.state, o[0], o[1], o[2]);
                if (law == 2 && !hangs(s)) {
                    continue;
                }
                Node to = known.get(s.key(law));
                if (to == null) {
                    to = new Node(s);
                    known.put(s.key(law), to);
                    all.add(to);
                }
                node.orders.add(o);
                node.behind.add(to);
                to.ahead.add(node);
            }
        }
        return all;
    }

    private static void measure(List<Node> all) {
        ArrayDeque<Node> open = new ArrayDeque<>();
        for (Node node : all) {
            if (node.state.allSearched()) {
                node.far = 0;
                open.add(node);
            }
        }
        while (!open.isEmpty()) {
            Node node = open.remove();
            for (Node before : node.ahead) {
                if (before.far == NONE) {
                    before.far = node.far + 1;
                    open.add(before);
                }
            }
        }
    }

    private boolean solvable(int law) {
        return law >= 0 && law <= 2 && n > 0 && n <= 6 && passages() <= 8;
    }

    int fewest(int law) {
        plan = null;
        if (!solvable(law)) {
            return NONE;
        }
        for (int k = 1; k <= 3; k++) {
            List<Node> all = net(law, k);
            measure(all);
            if (all.get(0).far != NONE) {
                plan = new ArrayList<>();
                Node node = all.get(0);
                while (node.far > 0) {
                    int i = 0;
                    while (node.behind.get(i).far != node.far - 1) {
                        i++;
                    }
                    plan.add(node.orders.get(i));
                    node = node.behind.get(i);
                }
                return k;
            }
        }
        return 4;
    }

    int plan(int i, int what) {
        if (plan == null) {
            return NONE;
        }
        if (i == NONE && what == 0) {
            return plan.size();
        }
        return i < 0 || i >= plan.size() || what < 0 || what > 2 ? NONE : plan.get(i)[what];
    }

    int witness(int law, int k) {
        if (!solvable(law) || k < 1 || k > 3) {
            return NONE;
        }
        List<Node> all = net(law, k);
        for (Node node : all) {
            if (node.state.allSearched()) {
                return -2;
            }
        }
        return all.size();
    }

    int judge(int law) {
        if (law < 0 || law > 2 || n == 0) {
            return NONE;
        }
        List<State> all = states();
        for (int i = 0; i < done.size(); i++) {
            if (all.get(i).allSearched() || !mayFollow(all.get(i), law, done.get(i)[0], done.get(i)[1])) {
                return 0;
            }
            if (law == 2 && !hangs(all.get(i + 1))) {
                return 0;
            }
        }
        return all.get(all.size() - 1).allSearched() ? 1 : 0;
    }

    boolean place(int i, int c) {
        if (!cave(i) || !cave(c)) {
            return false;
        }
        int old = layout.indexOf(c);
        layout.set(old, layout.get(i));
        layout.set(i, c);
        return true;
    }

    private int cutOf(List<Integer> row, int i) {
        int found = 0;
        for (int c : row.subList(0, i)) {
            boolean open = false;
            for (int d : row.subList(i, row.size())) {
                for (int p = 0; p < 18; p++) {
                    open |= isAt(p, c) && isAt(p, d);
                }
            }
            found += open ? 1 : 0;
        }
        return found;
    }

    private int greatest(List<Integer> row) {
        int most = 0;
        for (int i = 1; i <= row.size(); i++) {
            most = Math.max(most, cutOf(row, i));
        }
        return most;
    }

    int cut(int i) {
        if (i < 0 || i > n || n == 0) {
            return NONE;
        }
        return i == 0 ? greatest(layout) : cutOf(layout, i);
    }

    /** Goes through all rows in their order, so the first of a least cut is kept; a hopeless beginning is left. */
    private int tryRows(List<Integer> row, int most, int best) {
        if (row.size() == n) {
            layout.clear();
            layout.addAll(row);
            return most;
        }
        for (int c = 0; c < n; c++) {
            if (row.contains(c)) {
                continue;
            }
            row.add(c);
            List<Integer> whole = new ArrayList<>(row);
            for (int d = 0; d < n; d++) {
                if (!row.contains(d)) {
                    whole.add(d);
                }
            }
            int now = Math.max(most, cutOf(whole, row.size()));
            if (now < best) {
                best = tryRows(row, now, best);
            }
            row.remove(row.size() - 1);
        }
        return best;
    }

    int width() {
        return n == 0 ? NONE : tryRows(new ArrayList<>(), 0, n + 1);
    }
}
