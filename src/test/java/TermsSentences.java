/** The sentences of the document's terms, each with checks of its own at the boundaries that it names. */
final class TermsSentences {
    private static final int NONE = -6, UNKNOWN = -1, OUTSIDE = -2, STATE = -3, FULL = -4, NO = -5, SPENT = -7;

    private final Sentences s;

    TermsSentences(Sentences s) {
        this.s = s;
    }

    void check() {
        checkNets();
        checkWalks();
        checkSentOn();
        checkLooks();
        checkTwo();
        checkRings();
    }

    // ---- 1 nets

    private void checkNets() {
        postsOfANet();
        lastPostAndTheOneBehind();
        doorsOfAPost();
        joinedByTwo();
        joinedToItsOwnPost();
        degreeOfAPost();
        firstDoors();
        degreeOneOrMore();
        hangTogether();
        netOfOnePost();
        badOneWay();
        badByTheSameDoor();
    }

    private void postsOfANet() {
        s.term(1, "A NET has POSTS 0 to n - 1 (n 1 to 8; 3 at first)");
        for (int n = 1; n <= 8; n++) {
            NetWalkers x = new NetWalkers();
            s.due("posts(" + n + ")", x.posts(n), 3);
            s.due("told(0), n " + n, x.told(0), n);
            s.due("the first post, n " + n, x.degree(0), 0);
            s.due("the last post, n " + n, x.degree(n - 1), 0);
            s.due("one behind it, n " + n, x.degree(n), UNKNOWN);
            s.due("one ahead of all, n " + n, x.degree(-1), UNKNOWN);
        }
        NetWalkers x = new NetWalkers();
        s.due("n 0", x.posts(0), OUTSIDE);
        s.due("n 9", x.posts(9), OUTSIDE);
        s.due("n -1", x.posts(-1), OUTSIDE);
        s.due("at first", x.told(0), 3);
        s.due("post 2 at first", x.degree(2), 0);
        s.due("post 3 at first", x.degree(3), UNKNOWN);
    }

    private void lastPostAndTheOneBehind() {
        s.term(1, "POSTS 0 to n - 1");
        for (int n = 1; n <= 8; n++) {
            int[] last = askedWithPost(Nets.ring(n), n - 1);
            int[] behind = askedWithPost(Nets.ring(n), n);
            int[] ahead = askedWithPost(Nets.ring(n), -1);
            // Four times so far on, a post's first door would be a number beyond all ints, and wrap around to 0.
            int[] wrapped = askedWithPost(Nets.ring(n), 1 << 30);
            for (int call = 0; call < last.length; call++) {
                s.due("call " + call + " knows the last of " + n, last[call] == UNKNOWN ? 1 : 0, 0);
                s.due("call " + call + " with post " + n, behind[call], UNKNOWN);
                s.due("call " + call + " with post -1", ahead[call], UNKNOWN);
                s.due("call " + call + " with post 1 << 30", wrapped[call], UNKNOWN);
            }
        }
    }

    private static int[] askedWithPost(NetWalkers x, int post) {
        return new int[] {
            x.degree(post), x.leads(post, 0), x.bad(post, 3, false), x.after(post, 0, 0), x.walks(post, 0),
            x.sent(post, 0), x.next(post), x.look(post, 0), x.apart(post, 0), x.apart(0, post),
            x.meet(post, 0, 0, false), x.meet(0, post, 0, false), x.join(post, 2, 0, 3), x.join(0, 3, post, 2),
            x.part(post, 0)};
    }

    private void doorsOfAPost() {
        s.term(1, "each with DOORS 0 to 3");
        NetWalkers x = Nets.net(8, 1, 0, 0, 3);
        s.due("the last door of all", x.join(7, 3, 0, 0), 2);
        s.due("leads of the last door", x.leads(7, 3), 0);
        s.due("leads to the last door", x.leads(0, 0), 73);
        // Door 4 of post 0 is not door 0 of post 1, and door -1 of post 1 is not door 3 of post 0.
        int[][] wrong = {{0, 4}, {1, -1}, {7, 4}, {0, -1}, {0, 1 << 30}, {7, Integer.MAX_VALUE}, {0, Integer.MIN_VALUE}};
        for (int[] door : wrong) {
            String which = "(" + door[0] + ", " + door[1] + ")";
            s.due("leads" + which, x.leads(door[0], door[1]), UNKNOWN);
            s.due("part" + which, x.part(door[0], door[1]), UNKNOWN);
            s.due("bad" + which, x.bad(door[0], door[1], true), UNKNOWN);
            s.due("join" + which + " to 2, 2", x.join(door[0], door[1], 2, 2), UNKNOWN);
            s.due("join of 2, 2 to " + which, x.join(2, 2, door[0], door[1]), UNKNOWN);
        }
        for (int door = 0; door < 4; door++) {
            s.due("bad(6, " + door + ")", x.bad(6, door, true), 0);
            s.due("leads(6, " + door + ")", x.leads(6, door), NONE);
        }
        s.due("told(1)", x.told(1), 2);
        s.due("told(4)", x.told(4), 4);
    }

    private void joinedByTwo() {
        s.term(1, "that are joined by two, or not");
        NetWalkers x = Nets.net(3, 0, 0, 1, 1);
        s.due("leads(0, 0)", x.leads(0, 0), 11);
        s.due("leads(1, 1)", x.leads(1, 1), 0);
        s.due("one that is not joined", x.leads(0, 1), NONE);
        s.due("a third to the first", x.join(0, 0, 2, 0), NO);
        s.due("a third to the second", x.join(2, 0, 1, 1), NO);
        s.due("the third", x.leads(2, 0), NONE);
        s.due("part of the second", x.part(1, 1), 0);
        s.due("and the first is not joined", x.leads(0, 0), NONE);
        s.due("and may be", x.join(0, 0, 2, 0), 1);
    }

    private void joinedToItsOwnPost() {
        s.term(1, "a DOOR may be joined to another one of its own POST, not to itself");
        NetWalkers x = new NetWalkers();
        for (int door = 0; door < 4; door++) {
            s.due("door " + door + " to itself", x.join(1, door, 1, door), NO);
        }
        s.due("told(1)", x.told(1), 0);
        s.due("to another one", x.join(1, 3, 1, 0), 1);
        s.due("leads(1, 3)", x.leads(1, 3), 10);
        s.due("leads(1, 0)", x.leads(1, 0), 13);
        s.due("a joined one to itself", x.join(1, 3, 1, 3), NO);
    }

    private void degreeOfAPost() {
        s.term(1, "The DEGREE of a POST: its joined DOORS.");
        NetWalkers x = new NetWalkers();
        s.due("no door", x.degree(0), 0);
        x.join(0, 3, 1, 2);
        s.due("one, the last", x.degree(0), 1);
        s.due("one, of the other end", x.degree(1), 1);
        x.join(0, 0, 0, 2);
        s.due("two of its own", x.degree(0), 3);
        x.join(2, 0, 0, 1);
        s.due("all", x.degree(0), 4);
        x.part(2, 0);
        s.due("parted from the other end", x.degree(0), 3);
        x.part(0, 2);
        s.due("parted two of its own", x.degree(0), 1);
    }

    private void firstDoors() {
        s.term(1, "It is READY, if the joined DOORS of each POST are 0 to its DEGREE less 1");
        for (int one = 0; one < 4; one++) {
            for (int two = 0; two < 4; two++) {
                String doors = "doors " + one + " and " + two;
                boolean first = one + two == 1;
                s.due("one post, " + doors, Nets.net(1, 0, one, 0, two).ready(), first || one == two ? 1 : 0);
                s.due("two posts, " + doors, Nets.net(2, 0, one, 1, two).ready(), one + two == 0 ? 1 : 0);
            }
        }
        int[][] threeOfFour = {{1, 2, 3}, {0, 2, 3}, {0, 1, 3}, {0, 1, 2}};
        for (int missing = 0; missing < 4; missing++) {
            int[] doors = threeOfFour[missing];
            NetWalkers x = Nets.net(2, 1, doors[0], 0, 0, 1, doors[1], 1, doors[2]);
            s.due("three doors without " + missing, x.ready(), missing == 3 ? 1 : 0);
        }
        s.due("all four", Nets.net(1, 0, 0, 0, 3, 0, 1, 0, 2).ready(), 1);
        for (int post = 0; post < 8; post++) {
            NetWalkers x = Nets.ring(8);
            x.part(post, 0);
            x.join(post, 2, (post + 1) % 8, 1);
            s.due("a ring with doors 1 and 2 at post " + post, x.ready(), 0);
            x.part(post, 2);
            x.join(post, 0, (post + 1) % 8, 1);
            s.due("and with 0 and 1 once more", x.ready(), 1);
        }
    }

    private void degreeOneOrMore() {
        s.term(1, "DEGREE 1 or more");
        s.due("two of degree 1", Nets.line(2).ready(), 1);
        for (int left = 0; left < 8; left++) {
            s.due("a ring, and post " + left + " without doors", ringWithout(left).ready(), 0);
        }
        NetWalkers x = Nets.line(3);
        x.part(2, 0);
        s.due("the last of a line without doors", x.ready(), 0);
    }

    /** A ring of all of 8 posts but one. */
    private static NetWalkers ringWithout(int left) {
        NetWalkers x = Nets.net(8);
        for (int k = 1; k <= 7; k++) {
            int post = (left + k) % 8;
            int following = (left + k % 7 + 1) % 8;
            x.join(post, 0, following, 1);
        }
        return x;
    }

    private void hangTogether() {
        s.term(1, "and all POSTS hang together");
        for (int left = 0; left < 8; left++) {
            NetWalkers x = ringWithout(left);
            x.join(left, 0, left, 1);
            s.due("a ring, and post " + left + " alone", x.ready(), 0);
            x.join(left, 2, (left + 1) % 8, 2);
            s.due("joined to the ring", x.ready(), 1);
        }
        s.due("two rings of four", Nets.net(8, 0, 0, 1, 1, 1, 0, 2, 1, 2, 0, 3, 1, 3, 0, 0, 1,
            4, 0, 5, 1, 5, 0, 6, 1, 6, 0, 7, 1, 7, 0, 4, 1).ready(), 0);
        s.due("two pairs", Nets.net(4, 0, 0, 2, 0, 1, 0, 3, 0).ready(), 0);
        for (int n = 2; n <= 8; n++) {
            s.due("a line of " + n, Nets.line(n).ready(), 1);
            s.due("a line of " + n + " from the last", lineFromTheLast(n).ready(), 1);
        }
    }

    /** Post 0 is joined to the last one, that one to the one before it, and so on. */
    private static NetWalkers lineFromTheLast(int posts) {
        NetWalkers x = Nets.net(posts, 0, 0, posts - 1, 0);
        for (int post = posts - 1; post > 1; post--) {
            x.join(post, 1, post - 1, 0);
        }
        return x;
    }

    private void netOfOnePost() {
        s.term(1, "(Only the NET of one POST may have DEGREE 0.)");
        NetWalkers x = Nets.net(1);
        s.due("one post", x.ready(), 1);
        s.due("degree(0)", x.degree(0), 0);
        s.due("after(0, 0, 0)", x.after(0, 0, 0), 0);
        s.due("walks(0, 0)", x.walks(0, 0), 0);
        s.due("fails(1)", x.fails(1), 0);
        s.due("sent(0, 0)", x.sent(0, 0), 0);
        s.due("next(0)", x.next(0), 1);
        s.due("look(0, 20)", x.look(0, 20), 0);
        s.due("classes(20)", x.classes(20), 1);
        s.due("deep()", x.deep(), 0);
        s.due("apart(0, 0)", x.apart(0, 0), NONE);
        s.due("meet(0, 0, 20, true)", x.meet(0, 0, 20, true), 0);
        s.due("worst(20, true)", x.worst(20, true), 0);
        for (int n = 2; n <= 8; n++) {
            s.due("ready() with " + n + " posts without doors", Nets.net(n).ready(), 0);
            s.due("next(0) with " + n + " posts without doors", Nets.net(n).next(0), STATE);
        }
    }

    private void badOneWay() {
        s.term(1, "A DOOR may be BAD one way");
        NetWalkers x = Nets.bad(Nets.add(Nets.line(3), 0, 1), 1, 1);
        s.due("leads(1, 1)", x.leads(1, 1), 11);
        s.due("from 1 it comes back", x.after(1, 0, 1), 1);
        s.due("leads(2, 0), the other way", x.leads(2, 0), 11);
        s.due("from 2 it goes on", x.after(2, 0, 1), 1);
        x.bad(2, 0, true);
        s.due("both ways: leads(2, 0)", x.leads(2, 0), 20);
        s.due("both ways: leads(1, 1)", x.leads(1, 1), 11);
        s.due("both ways: from 2", x.after(2, 0, 1), 2);
    }

    private void badByTheSameDoor() {
        s.term(1, "who goes into it, comes back out of it, to the same POST, by the same DOOR.");
        // Into door 1; with 0 into the same door once more; with 1 on to door 0.
        NetWalkers x = Nets.bad(Nets.add(Nets.line(3), 0, 1, 0, 1), 1, 1);
        int[] due = {1, 1, 1, 0};
        for (int t = 0; t <= 3; t++) {
            s.due("after(1, 0, " + t + ")", x.after(1, 0, t), due[t]);
        }
        // Door 1 leads to door 2 of its own post: who comes by door 2 goes on with 1 by door 0.
        NetWalkers own = Nets.add(Nets.net(2, 0, 0, 1, 0, 0, 1, 0, 2), 0, 1, 1);
        s.due("not bad, to its own post", own.after(0, 0, 2), 1);
        own.bad(0, 1, true);
        s.due("bad, to its own post", own.after(0, 0, 2), 0);
        // By door 2 to door 1 now, and with 2 from there to door 0.
        own.add(0, 2);
        s.due("and the other way it is not bad", own.after(0, 0, 3), 1);
    }

    // ---- 2 walks

    private void checkWalks() {
        rowOf40();
        beginsByDoor0();
        byTurns();
        byDoors();
        degree0();
        walksAll();
        stepsToWalkAll();
    }

    private void rowOf40() {
        s.term(2, "THE ROW, 40 numbers at most (0 to 9 each).");
        NetWalkers x = Nets.ring(5);
        for (int k = 1; k <= 10; k++) {
            s.due("add(0, " + (k - 1) + ")", x.add(0, k - 1), k);
        }
        s.due("add(0, 10)", x.add(0, 10), OUTSIDE);
        s.due("add(0, -1)", x.add(0, -1), OUTSIDE);
        x.clear(0);
        for (int k = 1; k <= 39; k++) {
            x.add(0, 0);
        }
        s.due("number 40", x.add(0, 1), 40);
        s.due("number 41", x.add(0, 0), FULL);
        // Door 0 leads on, so 39 numbers lead to 39 left over by 5; door 1 leads back.
        s.due("39 numbers", x.after(0, 1, 39), 4);
        s.due("number 40 is walked", x.after(0, 1, 40), 3);
        s.due("clear(0)", x.clear(0), 40);
        s.due("number 1 once more", x.add(0, 0), 1);
    }

    private void beginsByDoor0() {
        s.term(2, "A walker begins at a POST as if it had come by DOOR 0.");
        for (int turn = 0; turn < 4; turn++) {
            NetWalkers x = Nets.add(Nets.star(4), 0, turn);
            s.due("by turns with " + turn, x.after(0, 0, 1), 1 + turn);
            Nets.add(x, 1, turn);
            for (int leaf = 1; leaf <= 4; leaf++) {
                int due = leaf == 1 + turn ? 21 : NONE;
                x.clear(0);
                s.due("the second of two with " + turn + ", to " + leaf, x.meet(leaf, 0, 20, true), due);
            }
        }
        // With 1 for ever from the middle: door 1 at first, and door 0 the last.
        NetWalkers barred = Nets.bad(Nets.star(4), 0, 1);
        s.due("by the next door", barred.next(0), 0b11011);
        // Doors 1 and 2 of post 0 lead to one another, so that door 0 alone leads on.
        for (int turn = 0; turn <= 2; turn++) {
            NetWalkers loop = Nets.add(Nets.net(2, 0, 0, 1, 0, 0, 1, 0, 2), 0, turn);
            s.due("walks(0, 0) with " + turn, loop.walks(0, 0), turn == 0 ? 1 : NONE);
            s.due("fails(0) with " + turn, loop.fails(0), turn == 0 ? 0b00 : 0b01);
            s.due("the first of two with " + turn, loop.meet(0, 1, 20, true), turn == 0 ? 1 : NONE);
        }
    }

    private void byTurns() {
        s.term(2, "BY TURNS: with each number x of THE ROW it goes on by DOOR (the one it came by, and x) left over by DEGREE");
        for (int x = 0; x <= 9; x++) {
            for (int degree = 2; degree <= 4; degree++) {
                NetWalkers star = Nets.add(Nets.star(degree), 0, 9, x);
                for (int leaf = 1; leaf <= degree; leaf++) {
                    // From a leaf it comes to the middle by the door that leads to that leaf.
                    String from = "from leaf " + leaf + " of " + degree + " with " + x;
                    s.due(from, star.after(leaf, 0, 2), 1 + (leaf - 1 + x) % degree);
                }
            }
            s.due("degree 1, with " + x, Nets.add(Nets.line(2), 0, x).after(0, 0, 1), 1);
        }
    }

    private void byDoors() {
        s.term(2, "BY DOORS: by DOOR x left over by DEGREE.");
        for (int x = 0; x <= 9; x++) {
            for (int degree = 2; degree <= 4; degree++) {
                NetWalkers star = Nets.add(Nets.star(degree), 0, 9, x);
                for (int leaf = 1; leaf <= degree; leaf++) {
                    String from = "from leaf " + leaf + " of " + degree + " with " + x;
                    s.due(from, star.after(leaf, 1, 2), 1 + x % degree);
                }
            }
            s.due("degree 1, with " + x, Nets.add(Nets.line(2), 0, x).after(0, 1, 1), 1);
        }
    }

    private void degree0() {
        s.term(2, "At DEGREE 0 it stays.");
        NetWalkers x = Nets.add(Nets.add(Nets.net(1), 0, 0, 1, 9), 1, 5);
        for (int t = 0; t <= 3; t++) {
            s.due("after(0, 0, " + t + ")", x.after(0, 0, t), 0);
            s.due("after(0, 1, " + t + ")", x.after(0, 1, t), 0);
        }
        s.due("sent(0, 1)", x.sent(0, 1), 0);
        s.due("sent(0, 2)", x.sent(0, 2), 1);
        s.due("next(0)", x.next(0), 1);
        s.due("meet(0, 0, 3, true)", x.meet(0, 0, 3, true), 0);
    }

    private void walksAll() {
        s.term(2, "It WALKS ALL, if it has been at all POSTS (the one at which it began, too).");
        // Each walk below never comes back to where it began, or lacks one post.
        s.due("two posts", Nets.add(Nets.line(2), 0, 0).walks(0, 0), 1);
        s.due("eight posts", Nets.addMany(Nets.line(8), 0, 1, 7).walks(0, 0), 7);
        s.due("eight posts but one", Nets.addMany(Nets.line(8), 0, 1, 6).walks(0, 0), NONE);
        s.due("one post, no number", Nets.net(1).walks(0, 0), 0);
        s.due("two posts, no number", Nets.line(2).walks(0, 0), NONE);
        s.due("who is sent on", Nets.line(2).sent(0, 0), 1);
        for (int left = 0; left < 8; left++) {
            // All doors into one post of the full ring are bad, so nobody else comes to it.
            NetWalkers x = Nets.bad(Nets.addMany(Nets.ring(8), 0, 0, 40), (left + 7) % 8, 0, (left + 1) % 8, 1);
            s.due("all but post " + left, x.walks((left + 1) % 8, 1), NONE);
        }
    }

    private void stepsToWalkAll() {
        s.term(2, "STEPS to walk all: of THE ROW gone through once, to when the last POST is come to.");
        s.due("numbers behind the last post", Nets.add(Nets.line(3), 0, 0, 1, 0, 0, 0).walks(0, 0), 2);
        s.due("one number, that twice would do", Nets.add(Nets.ring(3), 0, 0).walks(0, 1), NONE);
        s.due("two numbers", Nets.add(Nets.ring(3), 0, 0, 0).walks(0, 1), 2);
        // 34 steps to and fro between posts 0 and 1, and then 6 round the other way, to post 2.
        NetWalkers x = Nets.ring(8);
        for (int k = 0; k < 17; k++) {
            Nets.add(x, 0, 0, 1);
        }
        Nets.addMany(x, 0, 1, 5);
        s.due("39 numbers", x.walks(0, 1), NONE);
        x.add(0, 1);
        s.due("with the last of 40 numbers", x.walks(0, 1), 40);
        s.due("and fails(1) tells it, too", x.fails(1) & 1, 0);
    }

    // ---- 2, who is sent on

    private void checkSentOn() {
        hands();
        badDoorsLeadBack();
        ringOfOneWhoIsSentOn();
        steps20000();
        byTheNextDoor();
    }

    private void hands() {
        s.term(2, "SENT ON: each POST has a hand, at DOOR 0 at first; a walker goes by the DOOR of the hand, "
            + "that moves on by one (round DEGREE) as it goes.");
        // From leaf k back to the middle, and to leaf 1, 2, .. in turn.
        int[] due = {7, 8, 8, 8, 6};
        NetWalkers x = Nets.star(4);
        for (int post = 0; post <= 4; post++) {
            s.due("all, from post " + post, x.sent(post, 0), due[post]);
        }
        s.due("the hands are at door 0 in each call", x.sent(0, 0), 7);
        for (int degree = 1; degree <= 4; degree++) {
            s.due("round degree " + degree, Nets.star(degree).sent(0, 2), 2 * degree);
        }
    }

    private void badDoorsLeadBack() {
        s.term(2, "(BAD DOORS lead back here, too.)");
        NetWalkers x = Nets.bad(Nets.star(4), 0, 0);
        s.due("to leaf 1 leads no door", x.sent(0, 0), NONE);
        s.due("from leaf 1, a step at the bad door", x.sent(1, 0), 7);
        s.due("ahead of the ring", x.sent(1, 1), 1);
        s.due("the ring, with a step at the bad door", x.sent(1, 2), 7);
        NetWalkers shut = Nets.bad(Nets.star(4), 0, 0, 0, 1, 0, 2, 0, 3);
        s.due("all doors bad: the ring of the hand alone", shut.sent(0, 2), 4);
        s.due("all doors bad: from leaf 4", shut.sent(4, 1), 1);
    }

    private void ringOfOneWhoIsSentOn() {
        s.term(2, "THE RING of one who is always sent on: STEPS ahead of it are the least number after which "
            + "POST and all hands are once more as they were at some later time");
        NetWalkers line = Nets.line(3);
        // After 2 steps it is at post 0 once more, and its hand, too, but not the hand of post 1.
        s.due("all hands: ahead", line.sent(0, 1), 1);
        s.due("all hands: the ring", line.sent(0, 2), 4);
        s.due("none ahead", line.sent(1, 1), 0);
        s.due("the same ring", line.sent(1, 2), 4);
        // At 0 1 0 1 at first, and at 2 1 0 1 2 3 from then on.
        NetWalkers longer = Nets.line(4);
        s.due("a line of 4: the ring", longer.sent(0, 2), 6);
        s.due("a line of 4: ahead", longer.sent(0, 1), 4);
        NetWalkers stuck = Nets.bad(Nets.line(8), 7, 0);
        s.due("a ring of one step", stuck.sent(7, 2), 1);
        s.due("none ahead of it", stuck.sent(7, 1), 0);
    }

    private void steps20000() {
        s.term(2, "20000 STEPS at most are looked through (else SPENT -7).");
        NetWalkers x = Nets.closedAt20000();
        s.due("closed at 20000, ahead", x.sent(2, 1), 0);
        s.due("closed at 20000, the ring", x.sent(2, 2), 20000);
        s.due("closed at 20001, ahead", x.sent(4, 1), SPENT);
        s.due("closed at 20001, the ring", x.sent(4, 2), SPENT);
        s.due("SPENT is not answered for all", x.sent(4, 0), 13);
        NetWalkers behind = Nets.closedAt20000Behind16();
        s.due("closed at 20000 with 16 ahead", behind.sent(3, 1), 16);
        s.due("closed at 20000 behind 16, the ring", behind.sent(3, 2), 19984);
        s.due("closed at 20128, ahead", Nets.closedAt20128().sent(6, 1), SPENT);
        s.due("closed at 20128, the ring", Nets.closedAt20128().sent(6, 2), SPENT);
        s.due("closed behind 60000, ahead", Nets.closedBehind60000().sent(0, 1), SPENT);
        s.due("closed behind 60000, the ring", Nets.closedBehind60000().sent(0, 2), SPENT);
    }

    private void byTheNextDoor() {
        s.term(2, "BY THE NEXT DOOR: as BY TURNS with 1 for ever: POSTS that one comes to.");
        s.due("without a row", Nets.line(8).next(0), 0b11111111);
        s.due("a row is not asked", Nets.add(Nets.line(8), 0, 0, 0).next(0), 0b11111111);
        s.due("the last post after 26 steps", Nets.lateByTheNextDoor().next(3), 0b11111111);
        // Door 1 of post 0 is bad: at first back by door 1, then by door 0, and never to post 2.
        s.due("bad doors", Nets.bad(Nets.net(3, 0, 0, 1, 0, 0, 1, 2, 0), 0, 1).next(0), 0b011);
        s.due("bad doors, from the post behind", Nets.bad(Nets.net(3, 0, 0, 1, 0, 0, 1, 2, 0), 0, 1).next(2), 0b111);
        // Who goes round 1 0 2 inside never sees post 3, that is joined to post 2 outside.
        NetWalkers x = Nets.net(4, 0, 0, 1, 1, 1, 0, 2, 1, 2, 0, 0, 1, 2, 2, 3, 0);
        s.due("round inside", x.next(1), 0b0111);
        s.due("round outside", x.next(3), 0b1111);
    }

    // ---- 3 looks

    private void checkLooks() {
        depth0();
        alikeOneDeeper();
        badDoorsAreNotSeen();
        classesByLeastPosts();
        deep();
    }

    private void depth0() {
        s.term(3, "LOOKS: at depth 0 POSTS look alike, if their DEGREES are");
        for (int leaves = 1; leaves <= 4; leaves++) {
            s.due("classes(0) of a star of " + leaves, Nets.star(leaves).classes(0), leaves == 1 ? 1 : 2);
        }
        // Degrees 1, 2, 3, 4, and 2 once more.
        NetWalkers x = Nets.net(5, 0, 0, 3, 0, 1, 0, 3, 1, 1, 1, 2, 0, 2, 1, 3, 2, 2, 2, 4, 0, 3, 3, 4, 1);
        int[] due = {0, 1, 2, 3, 1};
        for (int post = 0; post < 5; post++) {
            s.due("look(" + post + ", 0)", x.look(post, 0), due[post]);
        }
        s.due("other doors at the ends are not seen yet", Nets.line(8).look(6, 0), 1);
        s.due("apart(1, 4) is deeper than 0", x.apart(1, 4), 1);
        s.due("apart(0, 3) is 0", x.apart(0, 3), 0);
    }

    private void alikeOneDeeper() {
        s.term(3, "at depth k + 1, if they looked so at depth k, and for each DOOR the other end has the same DOOR number "
            + "there, and its POST looks alike at depth k.");
        // Door 0 of posts 0 and 1 leads to posts of degree 3, by door 1; but they have degrees 1 and 3.
        NetWalkers looked = Nets.net(4, 0, 0, 2, 1, 1, 0, 3, 1, 1, 1, 2, 2, 1, 2, 3, 2, 2, 0, 3, 0);
        for (int depth = 0; depth <= 20; depth++) {
            s.due("they looked so at depth k: post 0, depth " + depth, looked.look(0, depth), 0);
            s.due("they looked so at depth k: post 1, depth " + depth, looked.look(1, depth), 1);
        }
        // Door 0 of post 0 leads to a door 1, that of post 1 to a door 2; all degrees are 3.
        NetWalkers crossed = Nets.net(2, 0, 0, 0, 1, 0, 2, 1, 0, 1, 1, 1, 2);
        s.due("the same door number, depth 0", crossed.classes(0), 1);
        s.due("the same door number, depth 1", crossed.classes(1), 2);
        // Posts 0 and 2 lead to posts with other degrees, by the same door numbers.
        NetWalkers x = Nets.net(4, 0, 0, 1, 0, 1, 1, 2, 1, 2, 0, 3, 0, 0, 1, 3, 1, 3, 2, 3, 3);
        s.due("posts behind, depth 0", x.look(2, 0), 0);
        s.due("posts behind, depth 1", x.apart(0, 2), 1);
        // Inwards from the ends of a line, one more is told apart at each depth.
        NetWalkers line = Nets.line(8);
        s.due("as the posts behind looked at depth k: 5 and 4", line.apart(5, 4), 2);
        s.due("as the posts behind looked at depth k: 4 and 3", line.apart(4, 3), 3);
        // Only the last of four doors is another one.
        NetWalkers last = Nets.net(3, 0, 0, 0, 1, 0, 2, 1, 2, 1, 0, 1, 1, 0, 3, 2, 0, 1, 3, 2, 1);
        s.due("each door, the last, too", last.apart(0, 1), 1);
        NetWalkers allDoors = Nets.net(2, 0, 0, 1, 1, 1, 0, 0, 1, 0, 2, 1, 3, 1, 2, 0, 3);
        s.due("each of four doors alike", allDoors.apart(0, 1), NONE);
        s.due("each of four doors alike, depth 20", allDoors.classes(20), 1);
    }

    private void badDoorsAreNotSeen() {
        s.term(3, "(BAD DOORS are not seen.)");
        for (int post = 0; post < 8; post++) {
            NetWalkers ring = Nets.bad(Nets.ring(8), post, 1);
            s.due("a bad door at post " + post + " of a ring, classes(20)", ring.classes(20), 1);
            s.due("a bad door at post " + post + " of a ring, deep()", ring.deep(), 0);
            NetWalkers line = Nets.bad(Nets.line(8), post, 0);
            s.due("a bad door at post " + post + " of a line, classes(1)", line.classes(1), 5);
            s.due("a bad door at post " + post + " of a line, apart(3, 4)", line.apart(3, 4), 3);
        }
    }

    private void classesByLeastPosts() {
        s.term(3, "CLASSES at a depth are numbered by their least POSTS.");
        // The middle of the star is post 2.
        NetWalkers x = Nets.net(5, 2, 0, 4, 0, 2, 1, 3, 0, 2, 2, 1, 0, 2, 3, 0, 0);
        int[] atDepth0 = {0, 0, 1, 0, 0};
        for (int post = 0; post < 5; post++) {
            s.due("look(" + post + ", 0)", x.look(post, 0), atDepth0[post]);
            s.due("look(" + post + ", 1)", x.look(post, 1), post);
        }
        int[] lineAtDepth1 = {0, 1, 2, 2, 2, 2, 3, 4};
        for (int post = 0; post < 8; post++) {
            s.due("line, look(" + post + ", 1)", Nets.line(8).look(post, 1), lineAtDepth1[post]);
        }
        s.due("eight classes", Nets.line(8).look(7, 3), 7);
    }

    private void deep() {
        s.term(3, "DEEP: the least depth from which on nothing is told apart any more.");
        NetWalkers x = Nets.deep();
        s.due("a deep net", x.deep(), 6);
        for (int depth = 1; depth <= 20; depth++) {
            boolean more = x.classes(depth) > x.classes(depth - 1);
            s.due("more is told apart at depth " + depth, more ? 1 : 0, depth <= 6 ? 1 : 0);
        }
        s.due("nothing is told apart at all", Nets.ring(8).deep(), 0);
        s.due("all is told apart at depth 0", Nets.net(2, 0, 0, 1, 0, 1, 1, 1, 2).deep(), 0);
        s.due("all is told apart at depth 1", Nets.star(4).deep(), 1);
    }

    // ---- 4 two

    private void checkTwo() {
        otherRowOf40();
        waits();
        standsBehindTheEnd();
        meetAtOnePost();
        worstMeeting();
        worstOfAllPairs();
    }

    /** Two posts with doors 1 and 2 joined: from door 0 0 leads over, 1 stays; then 2 stays, and 1 leads over. */
    private static NetWalkers hops() {
        return Nets.net(2, 0, 0, 1, 0, 0, 1, 0, 2, 1, 1, 1, 2);
    }

    private void otherRowOf40() {
        s.term(4, "TWO walkers: one follows THE ROW BY TURNS from a POST, the other one from another POST the same ROW, "
            + "or THE OTHER ROW (40 numbers at most, too)");
        NetWalkers x = Nets.addMany(Nets.add(hops(), 1, 1), 1, 2, 38);
        s.due("39 numbers that stay", x.meet(0, 1, 20, true), NONE);
        s.due("number 40 leads over", x.add(1, 1), 40);
        s.due("number 41", x.add(1, 0), FULL);
        s.due("met with number 40", x.meet(0, 1, 0, true), 40);
        s.due("met with number 40 behind 20", x.meet(0, 1, 20, true), 60);
        s.due("the same row, that is empty", x.meet(0, 1, 20, false), NONE);
        s.due("the worst", x.worst(20, true), 60);
        NetWalkers first = Nets.add(Nets.addMany(Nets.add(hops(), 0, 1), 0, 2, 38), 0, 1);
        s.due("the first with number 40", first.meet(0, 1, 0, true), 40);
        s.due("THE ROW is full, too", first.add(0, 1), FULL);
        s.due("the same row: both stay, and go at once", first.meet(0, 1, 0, false), NONE);
        s.due("the same row: the first goes first", first.meet(0, 1, 20, false), 40);
        // By turns, not by doors: with 1 and 1, that stays, and leads over.
        s.due("by turns", Nets.add(hops(), 0, 1, 1).meet(0, 1, 0, true), 2);
    }

    private void waits() {
        s.term(4, "but waits at first for so many STEPS (0 to 20)");
        NetWalkers second = Nets.add(Nets.line(2), 1, 0);
        NetWalkers first = Nets.add(Nets.line(2), 0, 0);
        for (int wait = 0; wait <= 20; wait++) {
            s.due("the second waits for " + wait, second.meet(0, 1, wait, true), wait + 1);
            s.due("the second waits for " + wait + ", from post 0", second.meet(1, 0, wait, true), wait + 1);
            s.due("the first does not wait, " + wait, first.meet(0, 1, wait, true), 1);
        }
        s.due("wait -1", second.meet(0, 1, -1, true), OUTSIDE);
        s.due("wait 21", second.meet(0, 1, 21, true), OUTSIDE);
    }

    private void standsBehindTheEnd() {
        s.term(4, "behind the end of a ROW one stands.");
        // The first comes to 2 at 2; the second comes there from 3 long after.
        s.due("the first stands", Nets.add(Nets.add(Nets.line(4), 0, 0, 1), 1, 0).meet(0, 3, 20, true), 21);
        // The second comes to 1 at 1; the first comes there from 3 at 2.
        s.due("the second stands", Nets.add(Nets.add(Nets.line(4), 0, 0, 1), 1, 0).meet(3, 0, 0, true), 2);
        s.due("both stand", Nets.line(2).meet(0, 1, 20, true), NONE);
        s.due("both stand, at one post", Nets.line(2).meet(1, 1, 20, true), 0);
        // Who did not stand would be led over once more at once, by the same number.
        s.due("the row is not gone through again", Nets.add(Nets.add(Nets.line(2), 0, 0), 1, 0).meet(0, 1, 20, true), 1);
        s.due("nor to the end of the wait", Nets.add(Nets.add(Nets.line(2), 0, 0, 0), 1, 0, 0).meet(0, 1, 2, true), 1);
        s.due("nor behind it", Nets.add(Nets.add(Nets.line(2), 0, 0), 1, 0).meet(0, 1, 0, true), NONE);
    }

    private void meetAtOnePost() {
        s.term(4, "All at once, STEP by STEP; they MEET, where both are at one POST (not on the way), STEP 0 counted.");
        s.due("on the way", Nets.add(Nets.line(2), 0, 0).meet(0, 1, 0, false), NONE);
        s.due("on the way, step by step", Nets.addMany(Nets.line(2), 0, 0, 40).meet(0, 1, 0, false), NONE);
        s.due("and an odd wait", Nets.addMany(Nets.line(2), 0, 0, 40).meet(0, 1, 1, false), 1);
        s.due("at an even distance", Nets.addMany(Nets.line(3), 0, 0, 1).meet(0, 2, 0, false), 1);
        NetWalkers x = Nets.add(Nets.line(8), 0, 0);
        for (int post = 0; post < 8; post++) {
            s.due("step 0, post " + post, x.meet(post, post, 20, false), 0);
        }
        // They come to one post by other doors.
        s.due("the door does not matter", Nets.add(Nets.line(3), 0, 0).meet(0, 2, 0, false), 1);
        s.due("the first of several steps", Nets.addMany(Nets.line(3), 0, 0, 3).meet(0, 2, 0, false), 1);
    }

    private void worstMeeting() {
        s.term(4, "all waits from 0 to w, the latest");
        NetWalkers second = Nets.add(Nets.line(2), 1, 0);
        for (int w = 0; w <= 20; w++) {
            s.due("the last wait is the latest, w " + w, second.worst(w, true), w + 1);
        }
        // The first goes over at 1 and back at 3; the second goes over once.
        NetWalkers x = Nets.add(Nets.add(hops(), 0, 0, 1, 1), 1, 0);
        s.due("wait 0", x.meet(0, 1, 0, true), 3);
        s.due("wait 1", x.meet(0, 1, 1, true), 1);
        s.due("wait 0 is the latest", x.worst(20, true), 3);
        s.due("the same row", Nets.add(Nets.line(2), 0, 0, 0).worst(0, false), NONE);
        s.term(4, "NONE, if some never meet.");
        // The first goes over with its third number, and so does the second behind a wait of 2.
        NetWalkers once = Nets.add(Nets.add(hops(), 0, 1, 2, 1), 1, 0);
        s.due("w 1", once.worst(1, true), 2);
        s.due("wait 3 alone", once.meet(0, 1, 3, true), 3);
        s.due("at wait 2 never", once.worst(2, true), NONE);
        s.due("nor with more waits", once.worst(3, true), NONE);
        s.due("at wait 0 never", Nets.add(Nets.add(Nets.line(2), 0, 0), 1, 0).worst(1, true), NONE);
    }

    private void worstOfAllPairs() {
        s.term(4, "THE WORST MEETING: for all pairs of two POSTS (not one and the same; looks do not matter)");
        NetWalkers alike = Nets.add(Nets.line(2), 0, 0);
        s.due("posts that look alike", alike.apart(0, 1), NONE);
        s.due("count", alike.worst(0, true), 1);
        // Post 1 has loops: from it 1 and 1 lead over at 2, from the other one at 1.
        s.due("only the pair 1, 0 is late", Nets.add(Nets.net(2, 0, 0, 1, 0, 1, 1, 1, 2), 0, 1, 1).worst(0, true), 2);
        s.due("only the pair 0, 1 is late", Nets.add(Nets.net(2, 0, 0, 1, 0, 0, 1, 0, 2), 0, 1, 1).worst(0, true), 2);
        s.due("only the pair 1, 0 never", Nets.add(Nets.net(2, 0, 0, 1, 0, 1, 1, 1, 2), 0, 1).worst(0, true), NONE);
        s.due("only the pair 0, 1 never", Nets.add(Nets.net(2, 0, 0, 1, 0, 0, 1, 0, 2), 0, 1).worst(0, true), NONE);
        // With 1 for ever from the middle to leaves 2, 3, 4, and at 7 to leaf 1; from a leaf all are met by 6.
        s.due("only the pair 0, 1 of five posts is late", Nets.addMany(Nets.star(4), 0, 1, 7).worst(20, true), 7);
        s.due("only the pair 0, 1 of five posts never", Nets.addMany(Nets.star(4), 0, 1, 6).worst(20, true), NONE);
        // The same star with post 4 in the middle, and door 0 leads to post 3.
        int[] turned = {4, 0, 3, 0, 4, 1, 2, 0, 4, 2, 1, 0, 4, 3, 0, 0};
        s.due("only the pair 4, 3 of five posts is late", Nets.addMany(Nets.net(5, turned), 0, 1, 7).worst(20, true), 7);
        s.due("only the pair 4, 3 of five posts never", Nets.addMany(Nets.net(5, turned), 0, 1, 6).worst(20, true), NONE);
        s.due("no pair of one post", Nets.net(1).worst(20, true), 0);
    }

    // ---- 5 rings

    private void checkRings() {
        ringsOf2To4();
        shortestAndFirst();
        twelveAtMost();
    }

    private void ringsOf2To4() {
        s.term(5, "RINGS of n POSTS (2 to 4)");
        int[] due = {OUTSIDE, OUTSIDE, 1, 3, 6, OUTSIDE, OUTSIDE};
        for (int n = 0; n <= 6; n++) {
            s.due("ring(" + n + ", -1)", new NetWalkers().ring(n, -1), due[n]);
        }
        s.due("n -1", new NetWalkers().ring(-1, -1), OUTSIDE);
    }

    private void shortestAndFirst() {
        for (int n = 2; n <= 4; n++) {
            int length = new NetWalkers().ring(n, -1);
            int answered = numbersOf(n, length);
            s.term(5, "each POST has two DOORS, in all ways. THE SHORTEST ROW BY DOORS of 0 and 1 that walks all in each of "
                + "these, from each POST");
            s.due("the row of " + n + " walks all", walksAllRings(n, length, answered) ? 1 : 0, 1);
            for (int shorter = 0; shorter < length; shorter++) {
                for (int row = 0; row < 1 << shorter; row++) {
                    s.due("a row of " + shorter + " for " + n, walksAllRings(n, shorter, row) ? 1 : 0, 0);
                }
            }
            s.term(5, "of several the first by numbers");
            for (int row = 0; row < answered; row++) {
                s.due("a row ahead of that for " + n, walksAllRings(n, length, row) ? 1 : 0, 0);
            }
            // With 0 and 1 changed for one another it walks all rings just so.
            int other = (1 << length) - 1 - answered;
            s.due("one of several", walksAllRings(n, length, other) ? 1 : 0, 1);
        }
    }

    private static int numbersOf(int n, int length) {
        NetWalkers x = new NetWalkers();
        int bits = 0;
        for (int i = 0; i < length; i++) {
            bits = 2 * bits + x.ring(n, i);
        }
        return bits;
    }

    /** Bit p of a way tells that the doors of post p are changed for one another. */
    private static boolean walksAllRings(int n, int length, int row) {
        for (int way = 0; way < 1 << n; way++) {
            NetWalkers x = Nets.net(n);
            for (int post = 0; post < n; post++) {
                int following = (post + 1) % n;
                x.join(post, way >> post & 1, following, 1 - (way >> following & 1));
            }
            for (int i = length - 1; i >= 0; i--) {
                x.add(0, row >> i & 1);
            }
            if (x.fails(1) != 0) {
                return false;
            }
        }
        return true;
    }

    private void twelveAtMost() {
        s.term(5, "one of 12 numbers at most.");
        NetWalkers x = new NetWalkers();
        for (int n = 2; n <= 4; n++) {
            s.due("12 at most for " + n, x.ring(n, -1) <= 12 ? 1 : 0, 1);
            s.due("number 12 of " + n, x.ring(n, 12), NONE);
        }
    }
}
