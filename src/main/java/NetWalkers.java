/**
 * Walkers in unknown nets: posts with numbered doors, and walkers who see nothing but numbers.
 *
 * A "place" is a post and one of its doors in one number, DOORS * post + door. A walker is told
 * by the place at which it stands: its post, and the door by which it came there.
 */
public final class NetWalkers {
    public static final int NONE = -6, UNKNOWN = -1, OUTSIDE = -2, STATE = -3, FULL = -4, NO = -5, SPENT = -7;

    private static final int POSTS_MOST = 8;
    private static final int POSTS_AT_FIRST = 3;
    private static final int DOORS = 4;
    private static final int ROW_MOST = 40;
    private static final int NUMBER_MOST = 9;
    private static final int WAIT_MOST = 20;
    private static final int DEPTH_MOST = 20;
    private static final int SENT_MOST = 20000;
    private static final int BY_TURNS = 0;
    private static final int BY_DOORS = 1;
    private static final int FREE = -1;

    private final Net net;
    private final Row row;
    private final Row otherRow;
    private final Hands hands;
    private final Looks looks;
    private final Rings rings;

    public NetWalkers() {
        net = new Net();
        row = new Row();
        otherRow = new Row();
        hands = new Hands(net);
        looks = new Looks(net);
        rings = new Rings();
    }

    // ---- 1 nets

    public int posts(int n) {
        if (n < 1 || n > POSTS_MOST) {
            return OUTSIDE;
        }
        int before = net.size;
        net.begin(n);
        return before;
    }

    public int join(int a, int doorA, int b, int doorB) {
        if (!net.hasPlace(a, doorA) || !net.hasPlace(b, doorB)) {
            return UNKNOWN;
        }
        int one = placeOf(a, doorA);
        int two = placeOf(b, doorB);
        if (one == two || net.endOf(one) != FREE || net.endOf(two) != FREE) {
            return NO;
        }
        net.tie(one, two);
        return net.pairs;
    }

    public int part(int post, int door) {
        if (!net.hasPlace(post, door)) {
            return UNKNOWN;
        }
        int place = placeOf(post, door);
        int end = net.endOf(place);
        if (end == FREE) {
            return NONE;
        }
        net.untie(place, end);
        return asTold(end);
    }

    public int bad(int post, int door, boolean is) {
        if (!net.hasPlace(post, door)) {
            return UNKNOWN;
        }
        int place = placeOf(post, door);
        boolean was = net.isBad(place);
        net.setBad(place, is);
        return was ? 1 : 0;
    }

    public int leads(int post, int door) {
        if (!net.hasPlace(post, door)) {
            return UNKNOWN;
        }
        int place = placeOf(post, door);
        return net.endOf(place) == FREE ? NONE : asTold(net.through(place));
    }

    public int ready() {
        return net.isReady() ? 1 : 0;
    }

    public int degree(int post) {
        return net.hasPost(post) ? net.degreeOf(post) : UNKNOWN;
    }

    // ---- 2 walks

    public int add(int which, int x) {
        if (!isWhich(which) || x < 0 || x > NUMBER_MOST) {
            return OUTSIDE;
        }
        Row asked = rowOf(which == 1);
        if (asked.isFull()) {
            return FULL;
        }
        asked.append(x);
        return asked.length;
    }

    public int clear(int which) {
        return isWhich(which) ? rowOf(which == 1).empty() : OUTSIDE;
    }

    public int after(int post, int how, int t) {
        if (!net.hasPost(post)) {
            return UNKNOWN;
        }
        if (!isHow(how) || t < 0 || t > row.length) {
            return OUTSIDE;
        }
        if (!net.isReady()) {
            return STATE;
        }
        int place = placeOf(post, 0);
        for (int k = 0; k < t; k++) {
            place = follow(place, row, k, how);
        }
        return postOf(place);
    }

    public int walks(int post, int how) {
        if (!net.hasPost(post)) {
            return UNKNOWN;
        }
        if (!isHow(how)) {
            return OUTSIDE;
        }
        return net.isReady() ? stepsToAll(post, how) : STATE;
    }

    public int fails(int how) {
        if (!isHow(how)) {
            return OUTSIDE;
        }
        if (!net.isReady()) {
            return STATE;
        }
        int failing = 0;
        for (int post = 0; post < net.size; post++) {
            if (stepsToAll(post, how) == NONE) {
                failing |= 1 << post;
            }
        }
        return failing;
    }

    public int sent(int post, int what) {
        if (!net.hasPost(post)) {
            return UNKNOWN;
        }
        if (what < 0 || what > 2) {
            return OUTSIDE;
        }
        if (!net.isReady()) {
            return STATE;
        }
        if (what == 0) {
            return hands.stepsToAll(post);
        }
        int length = hands.ringLength(post);
        if (length == SPENT) {
            return SPENT;
        }
        int ahead = hands.stepsAhead(post, length);
        return what == 1 || ahead == SPENT ? ahead : length;
    }

    public int next(int post) {
        if (!net.hasPost(post)) {
            return UNKNOWN;
        }
        if (!net.isReady()) {
            return STATE;
        }
        int place = placeOf(post, 0);
        int seen = 1 << post;
        // There are POSTS_MOST * DOORS places, so after as many steps nothing new can come.
        for (int t = 0; t < POSTS_MOST * DOORS; t++) {
            place = net.walkOn(place, 1, BY_TURNS);
            seen |= 1 << postOf(place);
        }
        return seen;
    }

    // ---- 3 looks

    public int look(int post, int depth) {
        if (!net.hasPost(post)) {
            return UNKNOWN;
        }
        if (!isDepth(depth)) {
            return OUTSIDE;
        }
        if (!net.isReady()) {
            return STATE;
        }
        looks.lookTo(depth);
        return looks.kindOf(post);
    }

    public int classes(int depth) {
        if (!isDepth(depth)) {
            return OUTSIDE;
        }
        if (!net.isReady()) {
            return STATE;
        }
        looks.lookTo(depth);
        return looks.count;
    }

    public int deep() {
        return net.isReady() ? looks.lookTo(DEPTH_MOST) : STATE;
    }

    public int apart(int a, int b) {
        if (!net.hasPost(a) || !net.hasPost(b)) {
            return UNKNOWN;
        }
        return net.isReady() ? looks.depthApart(a, b) : STATE;
    }

    // ---- 4 two

    public int meet(int a, int b, int wait, boolean other) {
        if (!net.hasPost(a) || !net.hasPost(b)) {
            return UNKNOWN;
        }
        if (wait < 0 || wait > WAIT_MOST) {
            return OUTSIDE;
        }
        return net.isReady() ? meetingStep(a, b, wait, rowOf(other)) : STATE;
    }

    public int worst(int w, boolean other) {
        if (w < 0 || w > WAIT_MOST) {
            return OUTSIDE;
        }
        if (!net.isReady()) {
            return STATE;
        }
        int latest = 0;
        for (int a = 0; a < net.size; a++) {
            for (int b = 0; b < net.size; b++) {
                int step = a == b ? 0 : latestMeeting(a, b, w, rowOf(other));
                if (step == NONE) {
                    return NONE;
                }
                latest = Math.max(latest, step);
            }
        }
        return latest;
    }

    // ---- 5 rings

    public int ring(int n, int i) {
        if (n < Rings.SIZE_LEAST || n > Rings.SIZE_MOST) {
            return OUTSIDE;
        }
        int length = rings.lengthFor(n);
        if (i == -1) {
            return length;
        }
        return rings.numberFor(n, i);
    }

    public int told(int what) {
        switch (what) {
            case 0:
                return net.size;
            case 1:
                return net.pairs;
            case 2:
                return row.length;
            case 3:
                return otherRow.length;
            case 4:
                return net.badDoors();
            default:
                return OUTSIDE;
        }
    }

    // ---- the numbers that calls are asked with

    private static boolean isWhich(int which) {
        return which == 0 || which == 1;
    }

    private static boolean isHow(int how) {
        return how == BY_TURNS || how == BY_DOORS;
    }

    private static boolean isDepth(int depth) {
        return depth >= 0 && depth <= DEPTH_MOST;
    }

    private Row rowOf(boolean other) {
        return other ? otherRow : row;
    }

    // ---- places

    private static int placeOf(int post, int door) {
        return DOORS * post + door;
    }

    private static int postOf(int place) {
        return place / DOORS;
    }

    private static int doorOf(int place) {
        return place % DOORS;
    }

    private static int asTold(int place) {
        return 10 * postOf(place) + doorOf(place);
    }

    // ---- walkers with a row

    /** The place that follows on place with number k of the row; behind the row's ends one stands. */
    private int follow(int place, Row numbers, int k, int how) {
        return numbers.has(k) ? net.walkOn(place, numbers.numberAt(k), how) : place;
    }

    private int stepsToAll(int post, int how) {
        int place = placeOf(post, 0);
        int seen = 1 << post;
        for (int t = 0; t <= row.length; t++) {
            if (seen == net.allPosts()) {
                return t;
            }
            place = follow(place, row, t, how);
            seen |= 1 << postOf(place);
        }
        return NONE;
    }

    private int meetingStep(int a, int b, int wait, Row second) {
        int one = placeOf(a, 0);
        int two = placeOf(b, 0);
        int last = Math.max(row.length, wait + second.length);
        for (int t = 0; t <= last; t++) {
            if (postOf(one) == postOf(two)) {
                return t;
            }
            one = follow(one, row, t, BY_TURNS);
            two = follow(two, second, t - wait, BY_TURNS);
        }
        return NONE;
    }

    private int latestMeeting(int a, int b, int w, Row second) {
        int latest = 0;
        for (int wait = 0; wait <= w; wait++) {
            int step = meetingStep(a, b, wait, second);
            if (step == NONE) {
                return NONE;
            }
            latest = Math.max(latest, step);
        }
        return latest;
    }

    /** A row of numbers to walk by. */
    private static final class Row {
        private final int[] numbers = new int[ROW_MOST];
        int length = 0;

        boolean isFull() {
            return length >= numbers.length;
        }

        void append(int x) {
            if (!isFull()) {
                numbers[length] = x;
                length++;
            }
        }

        int empty() {
            int had = length;
            length = 0;
            return had;
        }

        boolean has(int k) {
            return k >= 0 && k < length;
        }

        int numberAt(int k) {
            return has(k) && k < numbers.length ? numbers[k] : 0;
        }
    }

    /** The posts, and how their doors are joined. */
    private static final class Net {
        private final int[] ends = new int[POSTS_MOST * DOORS];
        private final boolean[] bads = new boolean[POSTS_MOST * DOORS];
        // Kept beside ends, because each step of a walker asks for it.
        private final int[] degrees = new int[POSTS_MOST];
        int size;
        int pairs;

        Net() {
            begin(POSTS_AT_FIRST);
        }

        void begin(int posts) {
            size = posts;
            pairs = 0;
            for (int place = 0; place < ends.length; place++) {
                ends[place] = FREE;
                setBad(place, false);
            }
            for (int post = 0; post < degrees.length; post++) {
                degrees[post] = 0;
            }
        }

        boolean hasPost(int post) {
            return post >= 0 && post < size;
        }

        boolean hasPlace(int post, int door) {
            return hasPost(post) && door >= 0 && door < DOORS;
        }

        int allPosts() {
            return (1 << size) - 1;
        }

        int degreeOf(int post) {
            return post >= 0 && post < degrees.length ? degrees[post] : 0;
        }

        int endOf(int place) {
            return place >= 0 && place < ends.length ? ends[place] : FREE;
        }

        boolean isBad(int place) {
            return place >= 0 && place < bads.length && bads[place];
        }

        void setBad(int place, boolean is) {
            if (place >= 0 && place < bads.length) {
                bads[place] = is;
            }
        }

        int badDoors() {
            int count = 0;
            for (int place = 0; place < bads.length; place++) {
                count += bads[place] ? 1 : 0;
            }
            return count;
        }

        void tie(int one, int two) {
            setEnd(one, two, 1);
            setEnd(two, one, 1);
            pairs++;
        }

        void untie(int one, int two) {
            setEnd(one, FREE, -1);
            setEnd(two, FREE, -1);
            pairs--;
        }

        private void setEnd(int place, int end, int more) {
            int post = postOf(place);
            if (place >= 0 && place < ends.length && post < degrees.length) {
                ends[place] = end;
                degrees[post] += more;
            }
        }

        boolean isReady() {
            for (int post = 0; post < size; post++) {
                if (!hasFirstDoors(post)) {
                    return false;
                }
            }
            // A post without doors, where there are more posts, does not hang together with them.
            return reachedFromFirst() == allPosts();
        }

        private boolean hasFirstDoors(int post) {
            for (int door = 0; door < degreeOf(post); door++) {
                if (endOf(placeOf(post, door)) == FREE) {
                    return false;
                }
            }
            return true;
        }

        private int reachedFromFirst() {
            int reached = 1;
            // A post is at most size - 1 doors away, so as many rounds find them all.
            for (int round = 1; round < size; round++) {
                for (int place = 0; place < ends.length; place++) {
                    if ((reached >> postOf(place) & 1) == 1 && endOf(place) != FREE) {
                        reached |= 1 << postOf(endOf(place));
                    }
                }
            }
            return reached;
        }

        /** The place that one comes to who goes into the door of a place. */
        int through(int place) {
            int end = endOf(place);
            return end == FREE || isBad(place) ? place : end;
        }

        /** The place that a walker comes to with number x. */
        int walkOn(int place, int x, int how) {
            int post = postOf(place);
            int degree = degreeOf(post);
            if (degree <= 0) {
                return place;
            }
            int from = how == BY_TURNS ? doorOf(place) : 0;
            return through(placeOf(post, (from + x) % degree));
        }
    }

    /**
     * Walkers whom the hands of the posts send on. A state is one number: the door of each post's
     * hand in two bits, post 0 lowest, and the walker's post above them.
     */
    private static final class Hands {
        private static final int HAND_BITS = 2;
        private static final int POST_AT = HAND_BITS * POSTS_MOST;
        // If a state comes again within SENT_MOST steps, a mark set before step 2 * SENT_MOST stands
        // on the ring, with no other mark for one ring's length: there it is met again.
        private static final int SEARCH_MOST = 3 * SENT_MOST;

        private final Net net;

        Hands(Net net) {
            this.net = net;
        }

        private static int start(int post) {
            return post << POST_AT;
        }

        private static int postAt(int state) {
            return state >> POST_AT;
        }

        private int sendOn(int state) {
            int post = postAt(state);
            int degree = net.degreeOf(post);
            if (degree <= 0) {
                return state;
            }
            int shift = HAND_BITS * post;
            int hand = state >> shift & DOORS - 1;
            int turned = (hand + 1) % degree;
            int handsOnly = state & (1 << POST_AT) - 1;
            int moved = handsOnly ^ (hand ^ turned) << shift;
            return moved | start(postOf(net.through(placeOf(post, hand))));
        }

        /** Marks are set at times 1, 2, 4, 8, ..: one of them comes to stand on the ring. */
        private static boolean isMarkTime(int time) {
            return (time & time - 1) == 0;
        }

        int stepsToAll(int post) {
            int state = start(post);
            int mark = state;
            int seen = 1 << post;
            for (int t = 0; t <= SENT_MOST; t++) {
                if (seen == net.allPosts()) {
                    return t;
                }
                state = sendOn(state);
                if (state == mark) {
                    // The ring is closed, and what is not seen by now never will be.
                    return NONE;
                }
                seen |= 1 << postAt(state);
                if (isMarkTime(t + 1)) {
                    mark = state;
                }
            }
            return NONE;
        }

        int ringLength(int post) {
            int state = start(post);
            int mark = state;
            int markTime = 0;
            for (int time = 1; time <= SEARCH_MOST; time++) {
                state = sendOn(state);
                if (state == mark) {
                    int length = time - markTime;
                    return length <= SENT_MOST ? length : SPENT;
                }
                if (isMarkTime(time)) {
                    mark = state;
                    markTime = time;
                }
            }
            return SPENT;
        }

        int stepsAhead(int post, int length) {
            int state = start(post);
            int later = state;
            for (int t = 0; t < length; t++) {
                later = sendOn(later);
            }
            for (int t = 0; t <= SENT_MOST - length; t++) {
                if (state == later) {
                    return t;
                }
                state = sendOn(state);
                later = sendOn(later);
            }
            return SPENT;
        }
    }

    /** Which posts look alike at a depth. */
    private static final class Looks {
        private final Net net;
        private final int[] kinds = new int[POSTS_MOST];
        private final int[] finer = new int[POSTS_MOST];
        int count;

        Looks(Net net) {
            this.net = net;
        }

        int kindOf(int post) {
            return post >= 0 && post < kinds.length ? kinds[post] : 0;
        }

        /** Looks at depth, and answers the least depth at which one sees as much. */
        int lookTo(int depth) {
            lookAtDegrees();
            for (int k = 0; k < depth; k++) {
                int before = count;
                lookDeeper();
                if (count == before) {
                    return k;
                }
            }
            return depth;
        }

        int depthApart(int a, int b) {
            lookAtDegrees();
            // Each depth that tells anything apart adds a class, so POSTS_MOST depths show all.
            for (int k = 0; k < POSTS_MOST; k++) {
                if (kindOf(a) != kindOf(b)) {
                    return k;
                }
                lookDeeper();
            }
            return NONE;
        }

        private void lookAtDegrees() {
            for (int post = 0; post < kinds.length; post++) {
                kinds[post] = 0;
            }
            split(true);
        }

        private void lookDeeper() {
            split(false);
        }

        /** Numbers the posts anew, by the least post that each one looks like. */
        private void split(boolean byDegree) {
            count = 0;
            for (int post = 0; post < net.size && post < finer.length; post++) {
                int like = leastLike(post, byDegree);
                if (like < post && like >= 0) {
                    finer[post] = finer[like];
                } else {
                    finer[post] = count;
                    count++;
                }
            }
            for (int post = 0; post < kinds.length && post < finer.length; post++) {
                kinds[post] = finer[post];
            }
        }

        private int leastLike(int post, boolean byDegree) {
            for (int other = 0; other < post; other++) {
                if (byDegree ? net.degreeOf(other) == net.degreeOf(post) : staysAlike(other, post)) {
                    return other;
                }
            }
            return post;
        }

        private boolean staysAlike(int a, int b) {
            if (kindOf(a) != kindOf(b)) {
                return false;
            }
            for (int door = 0; door < net.degreeOf(a); door++) {
                int endA = net.endOf(placeOf(a, door));
                int endB = net.endOf(placeOf(b, door));
                if (doorOf(endA) != doorOf(endB) || kindOf(postOf(endA)) != kindOf(postOf(endB))) {
                    return false;
                }
            }
            return true;
        }
    }

    /** The shortest rows that walk all rings; each is looked for once, when it is first asked for. */
    private static final class Rings {
        static final int SIZE_LEAST = 2;
        static final int SIZE_MOST = 4;
        private static final int LENGTH_MOST = 12;

        // Length 0: not looked for yet. The numbers of a row are bits, the last one lowest.
        private final int[] lengths = new int[SIZE_MOST + 1];
        private final int[] found = new int[SIZE_MOST + 1];

        int lengthFor(int size) {
            if (size < SIZE_LEAST || size >= lengths.length) {
                return NONE;
            }
            if (lengths[size] == 0) {
                find(size);
            }
            return lengths[size];
        }

        /** Number i of the row that lengthFor has found. */
        int numberFor(int size, int i) {
            if (size < SIZE_LEAST || size >= lengths.length || size >= found.length) {
                return NONE;
            }
            int length = lengths[size];
            return i >= 0 && i < length ? numberOf(found[size], length, i) : NONE;
        }

        private void find(int size) {
            if (size < SIZE_LEAST || size >= lengths.length || size >= found.length) {
                return;
            }
            lengths[size] = NONE;
            for (int length = 1; length <= LENGTH_MOST && lengths[size] == NONE; length++) {
                int bits = firstOfLength(size, length);
                if (bits != NONE) {
                    lengths[size] = length;
                    found[size] = bits;
                }
            }
        }

        private static int firstOfLength(int size, int length) {
            for (int bits = 0; bits < 1 << length; bits++) {
                if (walksAllRings(size, bits, length)) {
                    return bits;
                }
            }
            return NONE;
        }

        private static boolean walksAllRings(int size, int bits, int length) {
            for (int ring = 0; ring < 1 << size; ring++) {
                for (int post = 0; post < size; post++) {
                    if (!walksAll(size, ring, post, bits, length)) {
                        return false;
                    }
                }
            }
            return true;
        }

        /** Bit p of the ring tells which door of post p leads on to post p + 1; its other one leads back. */
        private static boolean walksAll(int size, int ring, int start, int bits, int length) {
            int post = start;
            int seen = 1 << start;
            for (int i = 0; i < length; i++) {
                boolean on = numberOf(bits, length, i) == (ring >> post & 1);
                post += on ? 1 : -1;
                if (post == size) {
                    post = 0;
                } else if (post < 0) {
                    post = size - 1;
                }
                seen |= 1 << post;
            }
            return seen == (1 << size) - 1;
        }

        private static int numberOf(int bits, int length, int i) {
            return bits >> length - 1 - i & 1;
        }
    }
}
