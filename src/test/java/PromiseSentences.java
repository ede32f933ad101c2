/** The sentences of the document's promises, each with checks of its own; RefusalSentences has the refusals. */
final class PromiseSentences {
    private static final int NONE = -6, UNKNOWN = -1, OUTSIDE = -2, STATE = -3, FULL = -4, NO = -5, SPENT = -7;

    private final Sentences s;

    PromiseSentences(Sentences s) {
        this.s = s;
    }

    void check() {
        checkNets();
        checkWalks();
        checkLooks();
        checkTwo();
        checkRingsAndTold();
        numbersOfRefusals();
        calls512();
    }

    // ---- 1 nets

    private void checkNets() {
        aNewObject();
        postsAnew();
        howManyPostsThereWere();
        joined();
        parted();
        badOrNot();
        leads();
        readyAndDegree();
    }

    private void aNewObject() {
        s.promise(1, "3 POSTS, no DOORS joined, no ROWS.");
        int[] due = {3, 0, 0, 0, 0};
        NetWalkers other = Nets.bad(Nets.add(Nets.add(Nets.line(8), 0, 1), 1, 2, 3), 0, 0);
        NetWalkers x = new NetWalkers();
        for (int what = 0; what <= 4; what++) {
            s.due("told(" + what + ")", x.told(what), due[what]);
        }
        for (int post = 0; post < 3; post++) {
            s.due("degree(" + post + ")", x.degree(post), 0);
            for (int door = 0; door < 4; door++) {
                s.due("leads(" + post + ", " + door + ")", x.leads(post, door), NONE);
            }
        }
        s.due("degree(3)", x.degree(3), UNKNOWN);
        s.due("ready()", x.ready(), 0);
        s.due("clear(0)", x.clear(0), 0);
        s.due("clear(1)", x.clear(1), 0);
        s.due("the other object keeps its own", other.told(0), 8);
    }

    private void postsAnew() {
        s.promise(2, "POSTS anew (no DOORS joined; ROWS stay)");
        for (int n = 1; n <= 8; n++) {
            NetWalkers x = Nets.bad(Nets.add(Nets.add(Nets.ring(8), 0, 3, 1, 2), 1, 5, 0), 0, 0, 7, 3);
            x.posts(n);
            s.due("pairs, n " + n, x.told(1), 0);
            s.due("bad doors, n " + n, x.told(4), 0);
            s.due("THE ROW, n " + n, x.told(2), 3);
            s.due("THE OTHER ROW, n " + n, x.told(3), 2);
            x.posts(8);
            for (int post = 0; post < 8; post++) {
                s.due("degree(" + post + ") behind n " + n, x.degree(post), 0);
                s.due("leads(" + post + ", 0) behind n " + n, x.leads(post, 0), NONE);
                s.due("leads(" + post + ", 1) behind n " + n, x.leads(post, 1), NONE);
            }
            s.due("bad(0, 0, false) behind n " + n, x.bad(0, 0, false), 0);
            s.due("bad(7, 3, false) behind n " + n, x.bad(7, 3, false), 0);
            s.due("the first pair behind n " + n, x.join(0, 0, 7, 0), 1);
        }
        // The numbers stay, too: 3 1 2 from the middle of a star, by doors, and 5 by turns.
        NetWalkers x = Nets.add(Nets.add(new NetWalkers(), 0, 3, 1, 2), 1, 5);
        x.posts(5);
        for (int leaf = 1; leaf <= 4; leaf++) {
            x.join(0, leaf - 1, leaf, 0);
        }
        s.due("the first number", x.after(0, 1, 1), 4);
        s.due("the third number", x.after(0, 1, 3), 3);
        x.clear(0);
        s.due("the number of THE OTHER ROW", x.meet(2, 0, 0, true), 1);
    }

    private void howManyPostsThereWere() {
        s.promise(2, "how many there were.");
        NetWalkers x = new NetWalkers();
        int[] asked = {3, 1, 8, 8, 2, 7, 4, 6, 5, 1};
        int were = 3;
        for (int n : asked) {
            s.due("posts(" + n + ") behind " + were, x.posts(n), were);
            were = n;
        }
        s.due("a refused one does not count", x.posts(9), OUTSIDE);
        s.due("posts(1) behind it", x.posts(1), 1);
    }

    private void joined() {
        s.promise(3, "Two DOORS are joined: how many pairs there are.");
        NetWalkers x = Nets.net(8);
        int pairs = 0;
        for (int post = 0; post < 8; post++) {
            s.due("doors 0 and 3 of " + post, x.join(post, 0, post, 3), pairs + 1);
            s.due("doors 1 and 2 of " + post, x.join(post, 2, post, 1), pairs + 2);
            pairs += 2;
        }
        s.due("all doors are joined", x.told(1), 16);
        s.due("no more", x.join(0, 0, 7, 3), NO);
        x.part(3, 1);
        x.part(4, 2);
        s.due("one more than there are left", x.join(3, 1, 4, 2), 15);
        s.due("leads(3, 1)", x.leads(3, 1), 42);
        s.due("leads(4, 2)", x.leads(4, 2), 31);
        s.due("the last one", x.join(4, 1, 3, 2), 16);
    }

    private void parted() {
        s.promise(4, "A DOOR is joined no more: 10 times the POST, and the DOOR of its other end.");
        NetWalkers x = Nets.net(8, 0, 0, 7, 3, 1, 1, 1, 2, 0, 3, 2, 0);
        s.due("to the last door of all", x.part(0, 0), 73);
        s.due("joined no more", x.leads(0, 0), NONE);
        s.due("nor is the other end", x.leads(7, 3), NONE);
        s.due("one pair less", x.told(1), 2);
        s.due("to the first door of all", Nets.net(8, 0, 0, 7, 3).part(7, 3), 0);
        s.due("to its own post", x.part(1, 2), 11);
        s.due("and its other end", x.leads(1, 1), NONE);
        // BAD is only which way one goes through; the other end is told all the same.
        s.due("a bad one", Nets.bad(x, 2, 0).part(2, 0), 3);
        s.due("it is still bad", x.told(4), 1);
        s.promise(4, "NONE: it was not.");
        s.due("once more", x.part(2, 0), NONE);
        s.due("its other end", x.part(0, 3), NONE);
        s.due("one that never was", x.part(6, 2), NONE);
        s.due("no pair less", x.told(1), 0);
    }

    private void badOrNot() {
        s.promise(5, "A DOOR is BAD, or not: whether it was (1, 0).");
        NetWalkers x = Nets.line(3);
        for (int post = 0; post < 3; post++) {
            for (int door = 0; door < 4; door++) {
                String which = "(" + post + ", " + door + ", ";
                s.due("bad" + which + "false) ahead", x.bad(post, door, false), 0);
                s.due("bad" + which + "true)", x.bad(post, door, true), 0);
                s.due("bad" + which + "true) again", x.bad(post, door, true), 1);
                s.due("told(4)", x.told(4), 1);
                s.due("bad" + which + "false)", x.bad(post, door, false), 1);
                s.due("bad" + which + "false) again", x.bad(post, door, false), 0);
                s.due("told(4) once more", x.told(4), 0);
            }
        }
        s.due("a bad one that was not joined", x.bad(0, 3, true), 0);
        s.due("is joined", x.join(0, 3, 2, 3), 3);
        s.due("and is bad", x.leads(0, 3), 3);
        s.due("the other end is not", x.leads(2, 3), 3);
    }

    private void leads() {
        s.promise(6, "Where a DOOR leads: 10 times the POST, and the DOOR by which one comes (BAD ones: itself)");
        NetWalkers x = Nets.net(8, 0, 0, 7, 3, 1, 1, 1, 2);
        s.due("to the last door of all", x.leads(0, 0), 73);
        s.due("to the first door of all", x.leads(7, 3), 0);
        s.due("to its own post", x.leads(1, 1), 12);
        Nets.bad(x, 7, 3, 1, 1);
        s.due("a bad one", x.leads(7, 3), 73);
        s.due("the way to it is open", x.leads(0, 0), 73);
        s.due("a bad one to its own post", x.leads(1, 1), 11);
        s.due("and the way back is open", x.leads(1, 2), 11);
        s.promise(6, "NONE: it is not joined (BAD or not).");
        s.due("not joined", x.leads(0, 1), NONE);
        Nets.bad(x, 0, 1);
        s.due("not joined, and bad", x.leads(0, 1), NONE);
        x.part(7, 3);
        s.due("parted, and bad", x.leads(7, 3), NONE);
    }

    private void readyAndDegree() {
        s.promise(7, "Whether the NET is READY: 1, 0.");
        NetWalkers x = Nets.net(2);
        s.due("two posts", x.ready(), 0);
        x.join(0, 0, 1, 0);
        s.due("joined", x.ready(), 1);
        x.join(0, 2, 1, 2);
        s.due("door 1 is left out", x.ready(), 0);
        x.join(0, 1, 1, 1);
        s.due("door 1 is joined", x.ready(), 1);
        s.due("all doors bad", Nets.bad(x, 0, 0, 0, 1, 0, 2, 1, 0, 1, 1, 1, 2).ready(), 1);
        x.part(1, 0);
        s.due("door 0 is left out", x.ready(), 0);
        s.promise(8, "DEGREE of a POST.");
        s.due("degree(0)", x.degree(0), 2);
        s.due("degree(1), bad doors and all", x.degree(1), 2);
        s.due("the least", new NetWalkers().degree(2), 0);
        s.due("the most", Nets.star(4).degree(0), 4);
        s.due("the last post", Nets.ring(8).degree(7), 2);
    }

    // ---- 2 walks

    private void checkWalks() {
        added();
        cleared();
        after();
        walks();
        fails();
        sentOn();
        byTheNextDoor();
    }

    private void added() {
        s.promise(9, "A number more of THE ROW (which = 0), THE OTHER ROW (1): how many.");
        for (int which = 0; which <= 1; which++) {
            NetWalkers x = new NetWalkers();
            for (int many = 1; many <= 40; many++) {
                s.due("add(" + which + ", ..) number " + many, x.add(which, many % 10), many);
            }
            s.due("told of that row", x.told(2 + which), 40);
            s.due("told of the other row", x.told(3 - which), 0);
            s.due("add(" + which + ", 0) number 41", x.add(which, 0), FULL);
            s.due("the other row has its own 40", x.add(1 - which, 9), 1);
        }
    }

    private void cleared() {
        s.promise(10, "A ROW goes: how many numbers it had.");
        for (int which = 0; which <= 1; which++) {
            NetWalkers x = Nets.add(new NetWalkers(), 1 - which, 4, 5);
            s.due("clear(" + which + ") of none", x.clear(which), 0);
            Nets.addMany(x, which, 3, 40);
            s.due("clear(" + which + ") of 40", x.clear(which), 40);
            s.due("clear(" + which + ") once more", x.clear(which), 0);
            s.due("told of the row that goes", x.told(2 + which), 0);
            s.due("told of the row that stays", x.told(3 - which), 2);
            s.due("add(" + which + ", 0) begins anew", x.add(which, 0), 1);
        }
        NetWalkers x = Nets.addMany(Nets.line(3), 0, 1, 3);
        x.clear(0);
        s.due("no number of it is walked", x.walks(0, 0), NONE);
        s.due("nor asked for", x.after(0, 0, 1), OUTSIDE);
        Nets.add(x, 0, 0, 0);
        s.due("new numbers stand in their stead", x.after(0, 0, 2), 0);
    }

    private void after() {
        s.promise(11, "POST after t numbers of THE ROW (t 0 to its length), BY TURNS (how = 0), BY DOORS (1).");
        NetWalkers x = Nets.ring(8);
        for (int length = 0; length <= 40; length++) {
            s.due("t 0 of " + length, x.after(5, 0, 0), 5);
            // By turns 1 leads on by door 1 from door 0, and so back round the ring; by doors, too.
            s.due("the last t, by turns", x.after(5, 0, length), (45 - length) % 8);
            s.due("the last t, by doors", x.after(5, 1, length), (45 - length) % 8);
            s.due("one more, by turns", x.after(5, 0, length + 1), OUTSIDE);
            s.due("one more, by doors", x.after(5, 1, length + 1), OUTSIDE);
            x.add(0, 1);
        }
        s.due("t between", x.after(5, 0, 17), 4);
        // With 0 by turns one goes to and fro, by doors round.
        NetWalkers zeros = Nets.addMany(Nets.ring(8), 0, 0, 3);
        s.due("0 0 by turns", zeros.after(2, 0, 2), 2);
        s.due("0 0 by doors", zeros.after(2, 1, 2), 4);
        s.due("THE OTHER ROW does not count", Nets.add(zeros, 1, 1, 1, 1, 1).after(2, 1, 4), OUTSIDE);
    }

    private void walks() {
        s.promise(12, "STEPS to walk all; NONE: it does not.");
        NetWalkers x = Nets.addMany(Nets.line(8), 0, 1, 6);
        s.due("with one number too few", x.walks(0, 0), NONE);
        x.add(0, 1);
        s.due("with the last number", x.walks(0, 0), 7);
        x.add(0, 1);
        s.due("with one more", x.walks(0, 0), 7);
        s.due("from the last post, by turns", x.walks(7, 0), 7);
        s.due("from one between, by turns", x.walks(3, 0), NONE);
        s.due("by doors", x.walks(0, 1), 7);
        s.due("from the last post, by doors", x.walks(7, 1), NONE);
        s.due("one post: no step", Nets.net(1, 0, 0, 0, 1).walks(0, 0), 0);
        s.due("one post: no step, with a row", Nets.addMany(Nets.net(1), 0, 1, 40).walks(0, 1), 0);
        s.due("a bad door", Nets.bad(x, 3, 1).walks(0, 0), NONE);
    }

    private void fails() {
        s.promise(13, "POSTS from which THE ROW does not walk all, as bits.");
        NetWalkers x = Nets.addMany(Nets.line(8), 0, 1, 7);
        s.due("all but the ends", x.fails(0), 0b01111110);
        s.due("all but the first", x.fails(1), 0b11111110);
        s.due("all", Nets.ring(8).fails(0), 0b11111111);
        s.due("none", Nets.addMany(Nets.ring(8), 0, 0, 7).fails(1), 0);
        s.due("one number too few", Nets.addMany(Nets.ring(8), 0, 0, 6).fails(1), 0b11111111);
        s.due("the last alone", Nets.bad(Nets.addMany(Nets.line(8), 0, 1, 40), 7, 0).fails(0) & 0b10000001, 0b10000000);
        s.due("one post: none", Nets.net(1).fails(0), 0);
        s.due("two posts, no number", Nets.line(2).fails(1), 0b11);
        s.due("two posts, one number", Nets.add(Nets.line(2), 0, 9).fails(1), 0);
    }

    private void sentOn() {
        s.promise(14, "SENT ON from a POST: STEPS to walk all (what = 0; NONE: within 20000 not), "
            + "STEPS ahead of THE RING (1), its STEPS (2).");
        NetWalkers x = Nets.star(3);
        // The hand of post 0 sends to leaf 1 at first, as it does behind a visit to leaf 3.
        int[][] due = {{5, 0, 6}, {6, 1, 6}, {6, 1, 6}, {4, 0, 6}};
        for (int post = 0; post <= 3; post++) {
            for (int what = 0; what <= 2; what++) {
                s.due("star, sent(" + post + ", " + what + ")", x.sent(post, what), due[post][what]);
            }
        }
        // No search found a net that is walked later; so 20000 steps go by only where a post is shut off.
        s.due("all, late", Nets.slowToWalk().sent(0, 0), 3636);
        s.due("never, and a late ring", Nets.shut().sent(0, 0), NONE);
        s.due("never, and a ring of one step", Nets.bad(Nets.line(2), 0, 0).sent(0, 0), NONE);
        s.due("one post: no step", Nets.net(1, 0, 0, 0, 1).sent(0, 0), 0);
        s.due("one post: the ring", Nets.net(1, 0, 0, 0, 1).sent(0, 2), 2);
        s.due("two posts", Nets.line(2).sent(1, 0), 1);
        s.due("never, and the steps until that ring is closed", Nets.shut().sent(0, 1) + Nets.shut().sent(0, 2), 15359);
        s.promise(14, "SPENT.");
        s.due("ahead, of 20001 in all", Nets.closedAt20000().sent(4, 1), SPENT);
        s.due("its steps, of 20001 in all", Nets.closedAt20000().sent(4, 2), SPENT);
        s.due("its steps, of 20000 in all", Nets.closedAt20000().sent(2, 2), 20000);
        s.due("all, without it", Nets.closedBehind60000().sent(0, 0), 16);
    }

    private void byTheNextDoor() {
        s.promise(15, "BY THE NEXT DOOR: POSTS one comes to, as bits.");
        s.due("all of eight", Nets.ring(8).next(7), 0b11111111);
        s.due("the last alone", Nets.bad(Nets.line(8), 7, 0).next(7), 0b10000000);
        s.due("the first alone", Nets.bad(Nets.line(8), 0, 0).next(0), 0b00000001);
        s.due("one post", Nets.net(1, 0, 0, 0, 1).next(0), 0b1);
        // Post 1 is left for good behind the bad door of post 2, by which one goes to and fro with post 3.
        s.due("a post that one never comes back to", Nets.bad(Nets.line(4), 2, 0).next(1), 0b1110);
        s.due("its own post is told, too, where it is left for good",
            Nets.bad(Nets.line(3), 1, 0, 2, 0).next(0), 0b111);
    }

    // ---- 3 looks

    private void checkLooks() {
        s.promise(16, "CLASS of a POST at a depth (0 to 20).");
        s.due("depth 0", Nets.line(8).look(7, 0), 0);
        s.due("depth 20", Nets.line(8).look(7, 20), 7);
        s.due("depth -1", Nets.line(8).look(7, -1), OUTSIDE);
        s.due("depth 21", Nets.line(8).look(7, 21), OUTSIDE);
        s.due("one post", Nets.net(1).look(0, 0), 0);
        for (int post = 0; post < 8; post++) {
            s.due("a ring, post " + post, Nets.ring(8).look(post, 20), 0);
            s.due("a deep net, post " + post, Nets.deep().look(post, 6), post);
        }
        s.promise(17, "CLASSES at a depth.");
        int[] line = {2, 5, 7, 8, 8};
        for (int depth = 0; depth <= 4; depth++) {
            s.due("a line, depth " + depth, Nets.line(8).classes(depth), line[depth]);
        }
        s.due("a line, depth 20", Nets.line(8).classes(20), 8);
        s.due("a line, depth 21", Nets.line(8).classes(21), OUTSIDE);
        s.due("a line, depth -1", Nets.line(8).classes(-1), OUTSIDE);
        s.due("a ring", Nets.ring(8).classes(20), 1);
        s.due("one post", Nets.net(1).classes(20), 1);
        s.promise(18, "DEEP.");
        int[] deep = {0, 0, 1, 1, 1, 2, 2, 3};
        for (int posts = 1; posts <= 8; posts++) {
            s.due("a line of " + posts, Nets.line(posts).deep(), deep[posts - 1]);
        }
        s.due("a deep net", Nets.deep().deep(), 6);
        apart();
    }

    private void apart() {
        s.promise(19, "The least depth at which two POSTS look unlike; NONE: never.");
        NetWalkers x = Nets.line(8);
        int[] from3 = {0, 1, 2, NONE, 3, 2, 1, 0};
        for (int post = 0; post < 8; post++) {
            s.due("apart(3, " + post + ")", x.apart(3, post), from3[post]);
            s.due("apart(" + post + ", 3)", x.apart(post, 3), from3[post]);
            s.due("a post and itself", x.apart(post, post), NONE);
            s.due("posts of a ring", Nets.ring(8).apart(0, post), NONE);
        }
        NetWalkers net = Nets.deep();
        int late = 0;
        for (int pair = 0; pair < 64; pair++) {
            late = Math.max(late, net.apart(pair / 8, pair % 8));
        }
        s.due("the last pair of a deep net", late, 6);
    }

    // ---- 4 two

    private void checkTwo() {
        s.promise(20, "The STEP at which they MEET, both with THE ROW (other = false), the second with THE OTHER ROW (true), "
            + "the second waiting; NONE.");
        // From 0 with 1 1 1 to 1 2 3; the second with 0 one step down, if it has THE OTHER ROW.
        NetWalkers x = Nets.add(Nets.add(Nets.line(4), 0, 1, 1, 1), 1, 0);
        s.due("step 0", x.meet(2, 2, 0, true), 0);
        s.due("the same row, no wait: on the way to 3 and back to 2", x.meet(0, 2, 0, false), 2);
        s.due("the other row, no wait", x.meet(0, 2, 0, true), 1);
        s.due("the other row, wait 1: past one another", x.meet(0, 2, 1, true), NONE);
        s.due("the other row, wait 2", x.meet(0, 2, 2, true), 2);
        s.due("the other row, the longest wait", x.meet(0, 2, 20, true), 2);
        s.due("the same row, the longest wait", x.meet(3, 0, 20, false), 3);
        s.due("the second waits, not the first", Nets.add(Nets.line(2), 1, 0).meet(0, 1, 20, true), 21);
        s.due("no rows", Nets.line(2).meet(0, 1, 20, true), NONE);
        s.due("no rows, one post", Nets.line(2).meet(1, 1, 20, false), 0);
        s.due("wait 21", x.meet(0, 2, 21, true), OUTSIDE);
        s.due("wait -1", x.meet(0, 2, -1, true), OUTSIDE);
        s.promise(21, "THE WORST MEETING.");
        s.due("w 0", Nets.add(Nets.line(2), 1, 0).worst(0, true), 1);
        s.due("w 20", Nets.add(Nets.line(2), 1, 0).worst(20, true), 21);
        s.due("w 21", Nets.add(Nets.line(2), 1, 0).worst(21, true), OUTSIDE);
        s.due("w -1", Nets.add(Nets.line(2), 1, 0).worst(-1, true), OUTSIDE);
        s.due("with THE ROW alone", Nets.add(Nets.line(2), 1, 0).worst(20, false), NONE);
        s.promise(21, "(0 with one POST.)");
        s.due("one post", Nets.net(1).worst(0, true), 0);
        s.due("one post, and rows", Nets.add(Nets.add(Nets.net(1), 0, 1), 1, 2).worst(20, false), 0);
        s.due("one post, and doors", Nets.add(Nets.net(1, 0, 0, 0, 1), 0, 1).worst(20, true), 0);
        s.due("one post, not READY", Nets.net(1, 0, 0, 0, 2).worst(20, true), STATE);
        s.due("one post, w 21", Nets.net(1).worst(21, true), OUTSIDE);
    }

    // ---- 5 rings

    private void checkRingsAndTold() {
        s.promise(22, "THE SHORTEST ROW for n: how long (i = -1), number i; NONE.");
        int[][] rows = {{0}, {0, 0, 1}, {0, 0, 1, 0, 0, 1}};
        for (int n = 2; n <= 4; n++) {
            int[] row = rows[n - 2];
            // Numbers are answered as well where nobody asked for the length first.
            s.due("the last number of " + n + " at once", new NetWalkers().ring(n, row.length - 1), row[row.length - 1]);
            NetWalkers x = new NetWalkers();
            s.due("the length of " + n, x.ring(n, -1), row.length);
            for (int i = 0; i < row.length; i++) {
                s.due("ring(" + n + ", " + i + ")", x.ring(n, i), row[i]);
            }
            for (int i : new int[] {row.length, 12, 13, 32, -2, Integer.MAX_VALUE, Integer.MIN_VALUE}) {
                s.due("ring(" + n + ", " + i + ")", x.ring(n, i), NONE);
            }
        }
        s.due("no READY net is needed", Nets.net(8).ring(2, 0), 0);
        s.promise(23, "0 POSTS, 1 pairs of DOORS joined, 2, 3 numbers of THE ROW, of THE OTHER ROW, 4 BAD DOORS.");
        told("a new one", new NetWalkers(), 3, 0, 0, 0, 0);
        NetWalkers most = Nets.addMany(Nets.addMany(Nets.net(8), 0, 1, 41), 1, 2, 39);
        for (int post = 0; post < 8; post++) {
            most.join(post, 0, post, 1);
            most.join(post, 2, post, 3);
            Nets.bad(most, post, 0, post, 1, post, 2, post, 3);
        }
        told("the most", most, 8, 16, 40, 39, 32);
        most.part(7, 3);
        most.bad(7, 3, false);
        most.clear(0);
        told("less", most, 8, 15, 0, 39, 31);
        most.posts(1);
        told("one post", most, 1, 0, 0, 39, 0);
        s.due("told(-1)", most.told(-1), OUTSIDE);
        s.due("told(5)", most.told(5), OUTSIDE);
    }

    private void told(String which, NetWalkers x, int... due) {
        for (int what = 0; what < due.length; what++) {
            s.due(which + ", told(" + what + ")", x.told(what), due[what]);
        }
    }

    // ---- all

    private void numbersOfRefusals() {
        s.term(0, "UNKNOWN -1");
        s.due("UNKNOWN", NetWalkers.UNKNOWN, -1);
        s.term(0, "OUTSIDE -2");
        s.due("OUTSIDE", NetWalkers.OUTSIDE, -2);
        s.term(0, "STATE -3");
        s.due("STATE", NetWalkers.STATE, -3);
        s.term(0, "FULL -4");
        s.due("FULL", NetWalkers.FULL, -4);
        s.term(0, "NO -5");
        s.due("NO", NetWalkers.NO, -5);
        s.due("NONE", NetWalkers.NONE, -6);
        s.term(2, "SPENT -7");
        s.due("SPENT", NetWalkers.SPENT, -7);
    }

    private void calls512() {
        s.ofAll("An object is used for at most 512 calls after it has been made");
        NetWalkers x = new NetWalkers();
        x.posts(2);
        x.join(0, 0, 1, 0);
        x.add(1, 0);
        for (int call = 4; call <= 511; call += 4) {
            s.due("call " + call, x.bad(0, 0, true), 0);
            s.due("call " + (call + 1), x.bad(0, 0, false), 1);
            s.due("call " + (call + 2), x.sent(0, 2), 2);
            s.due("call " + (call + 3), x.worst(20, true), 21);
        }
        s.due("call 512", x.ring(4, -1), 6);
    }
}
