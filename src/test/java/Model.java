import java.util.ArrayList;
import java.util.HashMap;
import java.util.HashSet;
import java.util.List;
import java.util.Map;
import java.util.Set;

/**
 * The document read anew, in the plainest words and without care for speed, to hold NetWalkers
 * against. It shares no thought with the program where there is a second way: rings are made by
 * joining doors, looks are told pair by pair, and a ring of hands is found by keeping every state.
 */
final class Model {
    static final int NONE = -6, UNKNOWN = -1, OUTSIDE = -2, STATE = -3, FULL = -4, NO = -5, SPENT = -7;

    record Door(int post, int number) { }

    record Walker(int post, int cameBy) { }

    private int size = 3;
    private final Map<Door, Door> joined = new HashMap<>();
    private final Set<Door> bad = new HashSet<>();
    private final List<List<Integer>> rows = List.of(new ArrayList<>(), new ArrayList<>());
    private static final Map<Integer, String> RINGS = new HashMap<>();

    private boolean noPost(int post) {
        return post < 0 || post >= size;
    }

    private boolean noDoor(int post, int door) {
        return noPost(post) || door < 0 || door > 3;
    }

    int posts(int n) {
        if (n < 1 || n > 8) {
            return OUTSIDE;
        }
        int before = size;
        size = n;
        joined.clear();
        bad.clear();
        return before;
    }

    int join(int a, int doorA, int b, int doorB) {
        if (noDoor(a, doorA) || noDoor(b, doorB)) {
            return UNKNOWN;
        }
        Door one = new Door(a, doorA);
        Door two = new Door(b, doorB);
        if (one.equals(two) || joined.containsKey(one) || joined.containsKey(two)) {
            return NO;
        }
        joined.put(one, two);
        joined.put(two, one);
        return joined.size() / 2;
    }

    int part(int post, int door) {
        if (noDoor(post, door)) {
            return UNKNOWN;
        }
        Door end = joined.remove(new Door(post, door));
        if (end == null) {
            return NONE;
        }
        joined.remove(end);
        return 10 * end.post() + end.number();
    }

    int bad(int post, int door, boolean is) {
        if (noDoor(post, door)) {
            return UNKNOWN;
        }
        Door which = new Door(post, door);
        boolean was = is ? !bad.add(which) : bad.remove(which);
        return was ? 1 : 0;
    }

    int leads(int post, int door) {
        if (noDoor(post, door)) {
            return UNKNOWN;
        }
        Door which = new Door(post, door);
        if (!joined.containsKey(which)) {
            return NONE;
        }
        Walker there = through(which);
        return 10 * there.post() + there.cameBy();
    }

    private Walker through(Door door) {
        Door to = bad.contains(door) ? door : joined.get(door);
        return new Walker(to.post(), to.number());
    }

    private int doors(int post) {
        int count = 0;
        for (int door = 0; door < 4; door++) {
            count += joined.containsKey(new Door(post, door)) ? 1 : 0;
        }
        return count;
    }

    int degree(int post) {
        return noPost(post) ? UNKNOWN : doors(post);
    }

    boolean isReady() {
        for (Door door : joined.keySet()) {
            if (door.number() >= doors(door.post())) {
                return false;
            }
        }
        List<Integer> reached = new ArrayList<>(List.of(0));
        for (int i = 0; i < reached.size(); i++) {
            for (Door door : joined.keySet()) {
                int there = joined.get(door).post();
                if (door.post() == reached.get(i) && !reached.contains(there)) {
                    reached.add(there);
                }
            }
        }
        return reached.size() == size;
    }

    int ready() {
        return isReady() ? 1 : 0;
    }

    int add(int which, int x) {
        if (which < 0 || which > 1 || x < 0 || x > 9) {
            return OUTSIDE;
        }
        if (rows.get(which).size() == 40) {
            return FULL;
        }
        rows.get(which).add(x);
        return rows.get(which).size();
    }

    int clear(int which) {
        if (which < 0 || which > 1) {
            return OUTSIDE;
        }
        int had = rows.get(which).size();
        rows.get(which).clear();
        return had;
    }

    private Walker step(Walker walker, int x, int how) {
        int degree = doors(walker.post());
        if (degree == 0) {
            return walker;
        }
        int sum = how == 0 ? walker.cameBy() + x : x;
        return through(new Door(walker.post(), sum % degree));
    }

    /** The posts at which a walker is, after 0, 1, .. steps, until the row and some more are over. */
    private List<Integer> walk(int post, int how, int wait, List<Integer> row, int atLeast) {
        List<Integer> at = new ArrayList<>();
        for (int i = 0; i <= wait; i++) {
            at.add(post);
        }
        Walker walker = new Walker(post, 0);
        for (int x : row) {
            walker = step(walker, x, how);
            at.add(walker.post());
        }
        while (at.size() <= atLeast) {
            at.add(walker.post());
        }
        return at;
    }

    int after(int post, int how, int t) {
        if (noPost(post)) {
            return UNKNOWN;
        }
        if (how < 0 || how > 1 || t < 0 || t > rows.get(0).size()) {
            return OUTSIDE;
        }
        return isReady() ? walk(post, how, 0, rows.get(0), 0).get(t) : STATE;
    }

    int walks(int post, int how) {
        if (noPost(post)) {
            return UNKNOWN;
        }
        if (how < 0 || how > 1) {
            return OUTSIDE;
        }
        if (!isReady()) {
            return STATE;
        }
        List<Integer> at = walk(post, how, 0, rows.get(0), 0);
        for (int t = 0; t < at.size(); t++) {
            if (new HashSet<>(at.subList(0, t + 1)).size() == size) {
                return t;
            }
        }
        return NONE;
    }

    int fails(int how) {
        if (how < 0 || how > 1) {
            return OUTSIDE;
        }
        if (!isReady()) {
            return STATE;
        }
        int bits = 0;
        for (int post = 0; post < size; post++) {
            bits += walks(post, how) == NONE ? 1 << post : 0;
        }
        return bits;
    }

    int sent(int post, int what) {
        if (noPost(post)) {
            return UNKNOWN;
        }
        if (what < 0 || what > 2) {
            return OUTSIDE;
        }
        if (!isReady()) {
            return STATE;
        }
        Map<String, Integer> times = new HashMap<>();
        Set<Integer> seen = new HashSet<>();
        char[] state = "000000000".toCharArray();
        state[8] += post;
        int all = NONE;
        for (int t = 0; t <= 20000; t++) {
            seen.add(state[8] - '0');
            if (all == NONE && seen.size() == size) {
                all = t;
            }
            Integer before = times.putIfAbsent(new String(state), t);
            if (before != null) {
                return what == 0 ? all : what == 1 ? before : t - before;
            }
            sendOn(state);
        }
        return what == 0 ? all : SPENT;
    }

    private void sendOn(char[] state) {
        int post = state[8] - '0';
        int hand = state[post] - '0';
        int degree = doors(post);
        if (degree > 0) {
            state[post] = (char) ('0' + (hand + 1 == degree ? 0 : hand + 1));
            state[8] = (char) ('0' + through(new Door(post, hand)).post());
        }
    }

    int next(int post) {
        if (noPost(post)) {
            return UNKNOWN;
        }
        if (!isReady()) {
            return STATE;
        }
        Set<Walker> seen = new HashSet<>();
        Walker walker = new Walker(post, 0);
        int bits = 0;
        while (seen.add(walker)) {
            bits |= 1 << walker.post();
            walker = step(walker, 1, 0);
        }
        return bits;
    }

    /** alike[k][a][b]: whether a and b look alike at depth k, for depths that show all and more. */
    private boolean[][][] alike() {
        boolean[][][] alike = new boolean[30][size][size];
        for (int k = 0; k < 30; k++) {
            for (int a = 0; a < size; a++) {
                for (int b = 0; b < size; b++) {
                    alike[k][a][b] = doors(a) == doors(b) && (k == 0 || alikeBehind(alike[k - 1], a, b));
                }
            }
        }
        return alike;
    }

    private boolean alikeBehind(boolean[][] before, int a, int b) {
        boolean same = before[a][b];
        for (int door = 0; door < doors(a); door++) {
            Door endA = joined.get(new Door(a, door));
            Door endB = joined.get(new Door(b, door));
            same &= endA.number() == endB.number() && before[endA.post()][endB.post()];
        }
        return same;
    }

    private List<Integer> kinds(int depth) {
        boolean[][] alike = alike()[depth];
        List<Integer> kinds = new ArrayList<>();
        Map<Integer, Integer> names = new HashMap<>();
        for (int post = 0; post < size; post++) {
            int least = 0;
            while (!alike[least][post]) {
                least++;
            }
            names.putIfAbsent(least, names.size());
            kinds.add(names.get(least));
        }
        return kinds;
    }

    int look(int post, int depth) {
        if (noPost(post)) {
            return UNKNOWN;
        }
        if (depth < 0 || depth > 20) {
            return OUTSIDE;
        }
        return isReady() ? kinds(depth).get(post) : STATE;
    }

    int classes(int depth) {
        if (depth < 0 || depth > 20) {
            return OUTSIDE;
        }
        return isReady() ? new HashSet<>(kinds(depth)).size() : STATE;
    }

    int deep() {
        if (!isReady()) {
            return STATE;
        }
        int depth = 29;
        while (depth > 0 && kinds(depth - 1).equals(kinds(29))) {
            depth--;
        }
        return depth;
    }

    int apart(int a, int b) {
        if (noPost(a) || noPost(b)) {
            return UNKNOWN;
        }
        if (!isReady()) {
            return STATE;
        }
        boolean[][][] alike = alike();
        for (int k = 0; k < 30; k++) {
            if (!alike[k][a][b]) {
                return k;
            }
        }
        return NONE;
    }

    int meet(int a, int b, int wait, boolean other) {
        if (noPost(a) || noPost(b)) {
            return UNKNOWN;
        }
        if (wait < 0 || wait > 20) {
            return OUTSIDE;
        }
        if (!isReady()) {
            return STATE;
        }
        List<Integer> one = walk(a, 0, 0, rows.get(0), 100);
        List<Integer> two = walk(b, 0, wait, rows.get(other ? 1 : 0), 100);
        for (int t = 0; t <= 100; t++) {
            if (one.get(t).equals(two.get(t))) {
                return t;
            }
        }
        return NONE;
    }

    int worst(int w, boolean other) {
        if (w < 0 || w > 20) {
            return OUTSIDE;
        }
        if (!isReady()) {
            return STATE;
        }
        List<Integer> steps = new ArrayList<>(List.of(0));
        for (int pair = 0; pair < size * size; pair++) {
            for (int wait = 0; wait <= w && pair / size != pair % size; wait++) {
                steps.add(meet(pair / size, pair % size, wait, other));
            }
        }
        return steps.contains(NONE) ? NONE : steps.stream().max(Integer::compare).get();
    }

    int ring(int n, int i) {
        if (n < 2 || n > 4) {
            return OUTSIDE;
        }
        String row = RINGS.computeIfAbsent(n, Model::shortestRow);
        if (row.isEmpty()) {
            return NONE;
        }
        if (i == -1) {
            return row.length();
        }
        return i < 0 || i >= row.length() ? NONE : row.charAt(i) - '0';
    }

    private static String shortestRow(int n) {
        List<Model> rings = new ArrayList<>();
        Model first = new Model();
        first.posts(n);
        joinInAllWays(first, rings);
        List<String> rowsOfLength = List.of("");
        for (int length = 0; length <= 12; length++) {
            List<String> longer = new ArrayList<>();
            for (String row : rowsOfLength) {
                if (walksAll(rings, row)) {
                    return row;
                }
                longer.add(row + "0");
                longer.add(row + "1");
            }
            rowsOfLength = longer;
        }
        return "";
    }

    private static boolean walksAll(List<Model> rings, String row) {
        for (Model ring : rings) {
            ring.clear(0);
            for (char x : row.toCharArray()) {
                ring.add(0, x - '0');
            }
            if (ring.fails(1) != 0) {
                return false;
            }
        }
        return true;
    }

    private static void joinInAllWays(Model net, List<Model> rings) {
        for (int post = 0; post < net.size; post++) {
            for (int door = 0; door < 2; door++) {
                if (net.leads(post, door) == NONE) {
                    joinDoorInAllWays(net, post, door, rings);
                    return;
                }
            }
        }
        if (net.isReady()) {
            Model ring = new Model();
            ring.posts(net.size);
            ring.joined.putAll(net.joined);
            rings.add(ring);
        }
    }

    private static void joinDoorInAllWays(Model net, int post, int door, List<Model> rings) {
        for (int other = 0; other < 2 * net.size; other++) {
            if (net.join(post, door, other / 2, other % 2) >= 0) {
                joinInAllWays(net, rings);
                net.part(post, door);
            }
        }
    }

    int told(int what) {
        return switch (what) {
            case 0 -> size;
            case 1 -> joined.size() / 2;
            case 2 -> rows.get(0).size();
            case 3 -> rows.get(1).size();
            case 4 -> bad.size();
            default -> OUTSIDE;
        };
    }
}
