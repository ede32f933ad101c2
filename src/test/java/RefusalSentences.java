import java.util.ArrayList;
import java.util.List;
import java.util.function.Supplier;

/**
 * Every call that is refused: what it answers, in which order, and that it changes nothing. Each one
 * is called on an object that has a twin, and the two are compared in all that they answer afterwards.
 */
final class RefusalSentences {
    private static final int NONE = -6, UNKNOWN = -1, OUTSIDE = -2, STATE = -3, FULL = -4, NO = -5;
    private static final int[] NO_POSTS = {-1, 4, 8, 1 << 30, Integer.MIN_VALUE, Integer.MAX_VALUE};
    private static final int[] NO_DOORS = {-1, 4, 1 << 30, Integer.MIN_VALUE, Integer.MAX_VALUE};

    private interface Call {
        int on(NetWalkers x);
    }

    private final Sentences s;
    private Supplier<NetWalkers> made = RefusalSentences::ready;

    RefusalSentences(Sentences s) {
        this.s = s;
    }

    void check() {
        noSuchPost();
        noSuchDoor();
        numbersOutside();
        notReady();
        full();
        no();
        inTheirOrder();
        answersThatChangeNothing();
    }

    // ---- objects that calls are refused by

    private static NetWalkers withRows(NetWalkers x) {
        return Nets.add(Nets.add(x, 0, 1, 0, 2), 1, 3, 1);
    }

    /** Four posts, READY; doors 2 and 3 of each are not joined. */
    private static NetWalkers ready() {
        return Nets.bad(withRows(Nets.line(4)), 1, 1, 3, 2);
    }

    /** Four posts, not READY. */
    private static NetWalkers rough() {
        return Nets.bad(withRows(Nets.net(4, 0, 1, 3, 3, 1, 0, 1, 1)), 0, 1);
    }

    private static NetWalkers fullRows() {
        return Nets.addMany(Nets.addMany(Nets.line(4), 0, 1, 40), 1, 7, 40);
    }

    /** What the twins show: all that they tell, and by their answers what is in their rows. */
    private static String shown(NetWalkers x) {
        List<Integer> answers = new ArrayList<>();
        for (int what = 0; what <= 4; what++) {
            answers.add(x.told(what));
        }
        answers.add(x.ready());
        for (int post = 0; post < x.told(0); post++) {
            answers.add(x.degree(post));
            for (int door = 0; door < 4; door++) {
                int was = x.bad(post, door, false);
                answers.add(was);
                answers.add(x.leads(post, door));
                x.bad(post, door, was == 1);
            }
        }
        for (int post = 0; post < x.told(0); post++) {
            answers.add(x.walks(post, 0));
            answers.add(x.sent(post, 1));
            answers.add(x.next(post));
            answers.add(x.look(post, 20));
        }
        showRows(x, answers);
        return answers.toString();
    }

    /** In full nets of 4 and 5 posts each number leads to a post of its own, left over by 3 and by 4. */
    private static void showRows(NetWalkers x, List<Integer> answers) {
        for (int posts = 4; posts <= 5; posts++) {
            x.posts(posts);
            for (int a = 0; a < posts; a++) {
                for (int b = a + 1; b < posts; b++) {
                    x.join(a, b - 1, b, a);
                }
            }
            for (int t = 0; t <= x.told(2); t++) {
                answers.add(x.after(0, 1, t));
            }
            for (int pair = 0; pair < posts * posts; pair++) {
                answers.add(x.meet(pair / posts, pair % posts, 20, true));
            }
        }
    }

    private void due(String what, Call call, int want) {
        NetWalkers tried = made.get();
        NetWalkers twin = made.get();
        s.due(what, call.on(tried), want);
        s.due(what + ", and the object behind it", shown(tried), shown(twin));
    }

    // ---- refusals

    private void noSuchPost() {
        for (Supplier<NetWalkers> one : List.<Supplier<NetWalkers>>of(RefusalSentences::ready, RefusalSentences::rough)) {
            made = one;
            for (int post : NO_POSTS) {
                noSuchPost(post);
            }
        }
    }

    private void noSuchPost(int post) {
        s.promise(3, "UNKNOWN");
        due("join(" + post + ", 0, 0, 2)", x -> x.join(post, 0, 0, 2), UNKNOWN);
        due("join(0, 2, " + post + ", 0)", x -> x.join(0, 2, post, 0), UNKNOWN);
        s.promise(4, "UNKNOWN");
        due("part(" + post + ", 0)", x -> x.part(post, 0), UNKNOWN);
        s.promise(5, "UNKNOWN");
        due("bad(" + post + ", 0, true)", x -> x.bad(post, 0, true), UNKNOWN);
        due("bad(" + post + ", 0, false)", x -> x.bad(post, 0, false), UNKNOWN);
        s.promise(6, "UNKNOWN");
        due("leads(" + post + ", 0)", x -> x.leads(post, 0), UNKNOWN);
        s.promise(8, "UNKNOWN");
        due("degree(" + post + ")", x -> x.degree(post), UNKNOWN);
        s.promise(11, "UNKNOWN");
        due("after(" + post + ", 0, 0)", x -> x.after(post, 0, 0), UNKNOWN);
        s.promise(12, "UNKNOWN");
        due("walks(" + post + ", 0)", x -> x.walks(post, 0), UNKNOWN);
        s.promise(14, "UNKNOWN");
        due("sent(" + post + ", 0)", x -> x.sent(post, 0), UNKNOWN);
        s.promise(15, "UNKNOWN");
        due("next(" + post + ")", x -> x.next(post), UNKNOWN);
        s.promise(16, "UNKNOWN");
        due("look(" + post + ", 0)", x -> x.look(post, 0), UNKNOWN);
        s.promise(19, "UNKNOWN");
        due("apart(" + post + ", 0)", x -> x.apart(post, 0), UNKNOWN);
        due("apart(0, " + post + ")", x -> x.apart(0, post), UNKNOWN);
        due("apart(" + post + ", " + post + ")", x -> x.apart(post, post), UNKNOWN);
        s.promise(20, "UNKNOWN");
        due("meet(" + post + ", 0, 0, true)", x -> x.meet(post, 0, 0, true), UNKNOWN);
        due("meet(0, " + post + ", 0, false)", x -> x.meet(0, post, 0, false), UNKNOWN);
        due("meet(" + post + ", " + post + ", 0, true)", x -> x.meet(post, post, 0, true), UNKNOWN);
    }

    private void noSuchDoor() {
        s.term(0, "UNKNOWN -1 (there is no such POST, DOOR)");
        for (Supplier<NetWalkers> one : List.<Supplier<NetWalkers>>of(RefusalSentences::ready, RefusalSentences::rough)) {
            made = one;
            for (int door : NO_DOORS) {
                due("join(0, " + door + ", 2, 2)", x -> x.join(0, door, 2, 2), UNKNOWN);
                due("join(2, 2, 0, " + door + ")", x -> x.join(2, 2, 0, door), UNKNOWN);
                due("part(1, " + door + ")", x -> x.part(1, door), UNKNOWN);
                due("bad(1, " + door + ", true)", x -> x.bad(1, door, true), UNKNOWN);
                due("bad(1, " + door + ", false)", x -> x.bad(1, door, false), UNKNOWN);
                due("leads(1, " + door + ")", x -> x.leads(1, door), UNKNOWN);
            }
        }
    }

    /** Numbers that are less than least or more than most: the next ones, and far ones. */
    private static int[] beyond(int least, int most) {
        return new int[] {least - 1, most + 1, -1000, 1 << 30, Integer.MIN_VALUE, Integer.MAX_VALUE};
    }

    private void numbersOutside() {
        s.term(0, "OUTSIDE -2 (another number is not as told)");
        for (Supplier<NetWalkers> one : List.<Supplier<NetWalkers>>of(RefusalSentences::ready, RefusalSentences::rough)) {
            made = one;
            numbersOutsideOfNetsAndRows();
            numbersOutsideOfWalks();
            numbersOutsideOfLooksAndTwo();
            numbersOutsideOfRings();
        }
    }

    private void numbersOutsideOfNetsAndRows() {
        s.promise(2, "OUTSIDE");
        for (int n : beyond(1, 8)) {
            due("posts(" + n + ")", x -> x.posts(n), OUTSIDE);
        }
        s.promise(9, "OUTSIDE");
        for (int which : beyond(0, 1)) {
            due("add(" + which + ", 0)", x -> x.add(which, 0), OUTSIDE);
        }
        for (int number : beyond(0, 9)) {
            due("add(0, " + number + ")", x -> x.add(0, number), OUTSIDE);
            due("add(1, " + number + ")", x -> x.add(1, number), OUTSIDE);
        }
        s.promise(10, "OUTSIDE");
        for (int which : beyond(0, 1)) {
            due("clear(" + which + ")", x -> x.clear(which), OUTSIDE);
        }
        s.promise(23, "OUTSIDE");
        for (int what : beyond(0, 4)) {
            due("told(" + what + ")", x -> x.told(what), OUTSIDE);
        }
    }

    private void numbersOutsideOfWalks() {
        s.promise(11, "OUTSIDE");
        for (int t : beyond(0, 3)) {
            due("after(0, 0, " + t + ") with a row of 3", x -> x.after(0, 0, t), OUTSIDE);
            due("after(0, 1, " + t + ") with a row of 3", x -> x.after(0, 1, t), OUTSIDE);
        }
        for (int how : beyond(0, 1)) {
            s.promise(11, "OUTSIDE");
            due("after(0, " + how + ", 0)", x -> x.after(0, how, 0), OUTSIDE);
            s.promise(12, "OUTSIDE");
            due("walks(0, " + how + ")", x -> x.walks(0, how), OUTSIDE);
            s.promise(13, "OUTSIDE");
            due("fails(" + how + ")", x -> x.fails(how), OUTSIDE);
        }
        s.promise(14, "OUTSIDE");
        for (int what : beyond(0, 2)) {
            due("sent(0, " + what + ")", x -> x.sent(0, what), OUTSIDE);
        }
    }

    private void numbersOutsideOfLooksAndTwo() {
        for (int number : beyond(0, 20)) {
            s.promise(16, "OUTSIDE");
            due("look(0, " + number + ")", x -> x.look(0, number), OUTSIDE);
            s.promise(17, "OUTSIDE");
            due("classes(" + number + ")", x -> x.classes(number), OUTSIDE);
            s.promise(20, "OUTSIDE: wait");
            due("meet(0, 1, " + number + ", true)", x -> x.meet(0, 1, number, true), OUTSIDE);
            due("meet(1, 1, " + number + ", false)", x -> x.meet(1, 1, number, false), OUTSIDE);
            s.promise(21, "OUTSIDE: w 0 to 20");
            due("worst(" + number + ", true)", x -> x.worst(number, true), OUTSIDE);
            due("worst(" + number + ", false)", x -> x.worst(number, false), OUTSIDE);
        }
    }

    private void numbersOutsideOfRings() {
        s.promise(22, "OUTSIDE: n.");
        for (int n : beyond(2, 4)) {
            for (int i : new int[] {-2, -1, 0, 12}) {
                due("ring(" + n + ", " + i + ")", x -> x.ring(n, i), OUTSIDE);
            }
        }
    }

    private void notReady() {
        s.term(0, "STATE -3 (as told)");
        made = RefusalSentences::rough;
        stateOfAll();
        // A net that hangs together, but for one door that is left out.
        made = () -> withRows(Nets.net(4, 0, 0, 1, 0, 1, 1, 2, 0, 2, 1, 3, 1));
        stateOfAll();
        // Two parts; and a net of one post, that needs no second one to be refused.
        made = () -> withRows(Nets.net(4, 0, 0, 1, 0, 2, 0, 3, 0));
        stateOfAll();
        made = () -> withRows(Nets.net(1, 0, 0, 0, 2));
        stateOfAll();
        made = NetWalkers::new;
        stateOfAll();
    }

    private void stateOfAll() {
        s.promise(11, "STATE: not READY.");
        due("after(0, 0, 0)", x -> x.after(0, 0, 0), STATE);
        due("after(0, 1, the row's length)", x -> x.after(0, 1, x.told(2)), STATE);
        s.promise(12, "STATE.");
        due("walks(0, 0)", x -> x.walks(0, 0), STATE);
        s.promise(13, "STATE.");
        due("fails(0)", x -> x.fails(0), STATE);
        due("fails(1)", x -> x.fails(1), STATE);
        for (int what = 0; what <= 2; what++) {
            int asked = what;
            s.promise(14, "STATE;");
            due("sent(0, " + what + ")", x -> x.sent(0, asked), STATE);
        }
        s.promise(15, "STATE.");
        due("next(0)", x -> x.next(0), STATE);
        s.promise(16, "STATE.");
        due("look(0, 0)", x -> x.look(0, 0), STATE);
        s.promise(17, "STATE.");
        due("classes(0)", x -> x.classes(0), STATE);
        s.promise(18, "STATE.");
        due("deep()", NetWalkers::deep, STATE);
        s.promise(19, "STATE.");
        due("apart(0, 0)", x -> x.apart(0, 0), STATE);
        s.promise(20, "STATE.");
        due("meet(0, 0, 0, true)", x -> x.meet(0, 0, 0, true), STATE);
        s.promise(21, "STATE.");
        due("worst(0, true)", x -> x.worst(0, true), STATE);
    }

    private void full() {
        made = RefusalSentences::fullRows;
        for (int number = 0; number <= 9; number++) {
            int added = number;
            s.promise(9, "FULL.");
            due("add(0, " + number + ")", x -> x.add(0, added), FULL);
            s.term(0, "FULL -4");
            due("add(1, " + number + ")", x -> x.add(1, added), FULL);
        }
    }

    private void no() {
        made = RefusalSentences::ready;
        s.promise(3, "NO: one of them is, or they are one.");
        due("the first is joined", x -> x.join(0, 0, 0, 2), NO);
        due("the second is joined", x -> x.join(0, 2, 0, 0), NO);
        due("both are joined", x -> x.join(0, 0, 2, 1), NO);
        due("they are joined with one another", x -> x.join(0, 0, 1, 0), NO);
        due("and the other way", x -> x.join(1, 0, 0, 0), NO);
        due("a bad one is joined", x -> x.join(0, 2, 1, 1), NO);
        s.term(0, "NO -5 (as told).");
        due("they are one", x -> x.join(0, 2, 0, 2), NO);
        due("they are one, that is joined", x -> x.join(0, 0, 0, 0), NO);
        due("they are one, that is bad", x -> x.join(3, 2, 3, 2), NO);
    }

    private void inTheirOrder() {
        s.term(0, "Calls that are refused answer, the first of these that fits");
        made = RefusalSentences::ready;
        due("join: UNKNOWN ahead of NO, the first is joined", x -> x.join(0, 0, 4, 0), UNKNOWN);
        due("join: UNKNOWN ahead of NO, the second is joined", x -> x.join(0, 4, 0, 0), UNKNOWN);
        due("join: UNKNOWN ahead of NO, they are one", x -> x.join(4, 0, 4, 0), UNKNOWN);
        due("join: UNKNOWN ahead of NO, they are one door", x -> x.join(0, 4, 0, 4), UNKNOWN);
        made = RefusalSentences::fullRows;
        due("add: OUTSIDE ahead of FULL, which", x -> x.add(2, 0), OUTSIDE);
        due("add: OUTSIDE ahead of FULL, x, THE ROW", x -> x.add(0, 10), OUTSIDE);
        due("add: OUTSIDE ahead of FULL, x, THE OTHER ROW", x -> x.add(1, -1), OUTSIDE);
        for (Supplier<NetWalkers> one : List.<Supplier<NetWalkers>>of(RefusalSentences::ready, RefusalSentences::rough)) {
            made = one;
            unknownAheadOfOutside();
        }
        made = RefusalSentences::rough;
        due("after: OUTSIDE ahead of STATE, how", x -> x.after(0, 2, 0), OUTSIDE);
        due("after: OUTSIDE ahead of STATE, t", x -> x.after(0, 0, 4), OUTSIDE);
        due("walks: OUTSIDE ahead of STATE", x -> x.walks(0, -1), OUTSIDE);
        due("fails: OUTSIDE ahead of STATE", x -> x.fails(2), OUTSIDE);
        due("sent: OUTSIDE ahead of STATE", x -> x.sent(0, 3), OUTSIDE);
        due("look: OUTSIDE ahead of STATE", x -> x.look(0, 21), OUTSIDE);
        due("classes: OUTSIDE ahead of STATE", x -> x.classes(21), OUTSIDE);
        due("meet: OUTSIDE ahead of STATE", x -> x.meet(0, 1, -1, true), OUTSIDE);
        due("worst: OUTSIDE ahead of STATE", x -> x.worst(21, true), OUTSIDE);
        due("next: UNKNOWN ahead of STATE", x -> x.next(4), UNKNOWN);
        due("apart: UNKNOWN ahead of STATE", x -> x.apart(0, 4), UNKNOWN);
    }

    private void unknownAheadOfOutside() {
        due("after: UNKNOWN ahead of OUTSIDE, how", x -> x.after(4, 2, 0), UNKNOWN);
        due("after: UNKNOWN ahead of OUTSIDE, t", x -> x.after(-1, 0, 4), UNKNOWN);
        due("walks: UNKNOWN ahead of OUTSIDE", x -> x.walks(4, 2), UNKNOWN);
        due("sent: UNKNOWN ahead of OUTSIDE", x -> x.sent(4, 3), UNKNOWN);
        due("look: UNKNOWN ahead of OUTSIDE", x -> x.look(4, 21), UNKNOWN);
        due("meet: UNKNOWN ahead of OUTSIDE, the first", x -> x.meet(4, 0, 21, true), UNKNOWN);
        due("meet: UNKNOWN ahead of OUTSIDE, the second", x -> x.meet(0, -1, -1, false), UNKNOWN);
    }

    // ---- calls that are not refused, and yet change nothing

    private void answersThatChangeNothing() {
        s.term(0, "They change nothing.");
        made = RefusalSentences::ready;
        due("part: NONE", x -> x.part(0, 2), NONE);
        due("leads: NONE", x -> x.leads(0, 2), NONE);
        due("bad, of one that is", x -> x.bad(1, 1, true), 1);
        due("bad, of one that is not", x -> x.bad(0, 0, false), 0);
        due("after", x -> x.after(0, 1, 3), 1);
        due("walks: NONE", x -> x.walks(0, 0), NONE);
        due("sent: NONE", x -> x.sent(0, 0), NONE);
        due("sent, ahead", x -> x.sent(3, 1), 2);
        due("next", x -> x.next(0), 0b0011);
        due("look", x -> x.look(3, 20), 3);
        due("classes", x -> x.classes(0), 2);
        due("apart: NONE", x -> x.apart(2, 2), NONE);
        due("meet", x -> x.meet(0, 3, 20, true), 22);
        due("worst: NONE", x -> x.worst(20, false), NONE);
        due("ring", x -> x.ring(4, -1), 6);
        due("ring: NONE", x -> x.ring(3, 3), NONE);
        made = RefusalSentences::fullRows;
        due("walks", x -> x.walks(0, 0), 3);
        due("worst", x -> x.worst(0, true), NONE);
        made = RefusalSentences::rough;
        due("ready", NetWalkers::ready, 0);
        due("part: NONE, not READY", x -> x.part(0, 0), NONE);
        due("clear of an empty row", x -> Nets.net(1).clear(0), 0);
    }
}
