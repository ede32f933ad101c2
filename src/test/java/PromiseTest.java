/**
 * A test for each promise, by its number: ordinary calls, the edges that the document names, and
 * wrong calls. The answers are worked out by hand, but for the great nets of promise 14, which
 * were searched for by another program.
 */
public final class PromiseTest {
    private static final int NONE = -6, UNKNOWN = -1, OUTSIDE = -2, STATE = -3, FULL = -4, NO = -5, SPENT = -7;

    private static final Checks CHECKS = new Checks();

    public static void main(String[] args) {
        promise1ANewObject();
        promise2Posts();
        promise3Join();
        promise4Part();
        promise5Bad();
        promise6Leads();
        promise7Ready();
        promise8Degree();
        promise9Add();
        promise10Clear();
        promise11After();
        promise12Walks();
        promise13Fails();
        promise14Sent();
        promise14SentFar();
        promise15Next();
        promise16Look();
        promise17Classes();
        promise18Deep();
        promise19Apart();
        promise20Meet();
        promise21Worst();
        promise22Ring();
        promise23Told();
        refusedCallsChangeNothing();
        farNumbersAreRefused();
        CHECKS.end();
    }

    private static void due(String call, int got, int want) {
        CHECKS.due(call, got, want);
    }

    // ---- 1 nets

    private static void promise1ANewObject() {
        NetWalkers x = new NetWalkers();
        due("1 told(0)", x.told(0), 3);
        for (int what = 1; what <= 4; what++) {
            due("1 told(" + what + ")", x.told(what), 0);
        }
        for (int post = 0; post < 3; post++) {
            due("1 degree(" + post + ")", x.degree(post), 0);
            for (int door = 0; door < 4; door++) {
                due("1 leads", x.leads(post, door), NONE);
                due("1 bad", x.bad(post, door, false), 0);
            }
        }
        due("1 degree(3)", x.degree(3), UNKNOWN);
        due("1 ready()", x.ready(), 0);
        new NetWalkers().join(0, 0, 1, 0);
        due("1 objects share nothing", new NetWalkers().told(1), 0);
    }

    private static void promise2Posts() {
        NetWalkers x = Nets.add(Nets.bad(Nets.line(3), 0, 0, 2, 3), 0, 1, 2);
        x.add(1, 5);
        due("2 posts(0)", x.posts(0), OUTSIDE);
        due("2 posts(9)", x.posts(9), OUTSIDE);
        due("2 posts(-1)", x.posts(-1), OUTSIDE);
        due("2 told(0)", x.told(0), 3);
        due("2 told(1)", x.told(1), 2);
        due("2 posts(3)", x.posts(3), 3);
        due("2 told(1) anew", x.told(1), 0);
        for (int post = 0; post < 3; post++) {
            due("2 degree anew", x.degree(post), 0);
        }
        due("2 leads(0, 0) anew", x.leads(0, 0), NONE);
        due("2 told(4) anew", x.told(4), 0);
        due("2 the row stays", x.told(2), 2);
        due("2 the other row stays", x.told(3), 1);
        due("2 posts(1)", x.posts(1), 3);
        due("2 posts(8)", x.posts(8), 1);
        due("2 degree(7)", x.degree(7), 0);
        due("2 degree(8)", x.degree(8), UNKNOWN);
        due("2 posts(2)", x.posts(2), 8);
    }

    private static void promise3Join() {
        NetWalkers x = new NetWalkers();
        due("3 join(0, 0, 1, 3)", x.join(0, 0, 1, 3), 1);
        due("3 join of two doors of a post", x.join(2, 0, 2, 1), 2);
        due("3 leads(0, 0)", x.leads(0, 0), 13);
        due("3 leads(1, 3)", x.leads(1, 3), 0);
        due("3 leads(2, 0)", x.leads(2, 0), 21);
        due("3 a is joined", x.join(0, 0, 1, 0), NO);
        due("3 b is joined", x.join(1, 0, 0, 0), NO);
        due("3 the same pair", x.join(1, 3, 0, 0), NO);
        due("3 one door", x.join(0, 2, 0, 2), NO);
        due("3 post -1", x.join(-1, 0, 0, 2), UNKNOWN);
        due("3 post 3", x.join(0, 2, 3, 0), UNKNOWN);
        due("3 door 4", x.join(0, 4, 1, 0), UNKNOWN);
        due("3 door -1", x.join(0, 2, 1, -1), UNKNOWN);
        due("3 UNKNOWN ahead of NO", x.join(0, 0, 1, 4), UNKNOWN);
        due("3 told(1)", x.told(1), 2);
        due("3 bad doors join too", Nets.bad(new NetWalkers(), 0, 1).join(0, 1, 1, 1), 1);
        due("3 all doors", manyPairs(), 16);
    }

    private static int manyPairs() {
        NetWalkers x = new NetWalkers();
        x.posts(8);
        int pairs = 0;
        for (int post = 0; post < 8; post++) {
            x.join(post, 0, post, 3);
            pairs = x.join(post, 2, post, 1);
        }
        return pairs;
    }

    private static void promise4Part() {
        NetWalkers x = Nets.net(3, 0, 0, 2, 3, 1, 1, 1, 2);
        x.bad(0, 0, true);
        due("4 part(0, 1)", x.part(0, 1), NONE);
        due("4 part(3, 0)", x.part(3, 0), UNKNOWN);
        due("4 part(-1, 0)", x.part(-1, 0), UNKNOWN);
        due("4 part(0, 4)", x.part(0, 4), UNKNOWN);
        due("4 part(0, -1)", x.part(0, -1), UNKNOWN);
        due("4 told(1) before", x.told(1), 2);
        due("4 part of a bad door", x.part(0, 0), 23);
        due("4 the other end is free", x.part(2, 3), NONE);
        due("4 told(1) after", x.told(1), 1);
        due("4 degree(2)", x.degree(2), 0);
        due("4 the door is still bad", x.told(4), 1);
        due("4 a post's own two doors", x.part(1, 2), 11);
        due("4 degree(1)", x.degree(1), 0);
        due("4 joined anew", x.join(2, 3, 1, 1), 1);
    }

    private static void promise5Bad() {
        NetWalkers x = Nets.line(3);
        due("5 bad(0, 0, true)", x.bad(0, 0, true), 0);
        due("5 once more", x.bad(0, 0, true), 1);
        due("5 told(4)", x.told(4), 1);
        due("5 one way only", x.leads(1, 0), 0);
        due("5 and not", x.bad(0, 0, false), 1);
        due("5 and not once more", x.bad(0, 0, false), 0);
        due("5 leads(0, 0)", x.leads(0, 0), 10);
        due("5 a door that is not joined", x.bad(2, 3, true), 0);
        due("5 told(4)", x.told(4), 1);
        due("5 post 3", x.bad(3, 0, true), UNKNOWN);
        due("5 post -1", x.bad(-1, 0, false), UNKNOWN);
        due("5 door 4", x.bad(0, 4, true), UNKNOWN);
        due("5 door -1", x.bad(1, -1, true), UNKNOWN);
        due("5 told(4) in the end", x.told(4), 1);
    }

    private static void promise6Leads() {
        NetWalkers x = Nets.net(3, 0, 0, 2, 3, 1, 1, 1, 2);
        due("6 leads(0, 0)", x.leads(0, 0), 23);
        due("6 leads(2, 3)", x.leads(2, 3), 0);
        due("6 leads(1, 1)", x.leads(1, 1), 12);
        due("6 leads(1, 2)", x.leads(1, 2), 11);
        due("6 leads(0, 1)", x.leads(0, 1), NONE);
        Nets.bad(x, 0, 1, 2, 3, 1, 2);
        due("6 not joined and bad", x.leads(0, 1), NONE);
        due("6 bad", x.leads(2, 3), 23);
        due("6 bad to the same post", x.leads(1, 2), 12);
        due("6 its other end is not", x.leads(1, 1), 12);
        due("6 post 3", x.leads(3, 0), UNKNOWN);
        due("6 post -1", x.leads(-1, 0), UNKNOWN);
        due("6 door 4", x.leads(0, 4), UNKNOWN);
        due("6 door -1", x.leads(0, -1), UNKNOWN);
    }

    private static void promise7Ready() {
        due("7 line", Nets.line(3).ready(), 1);
        due("7 bad doors count as joined", Nets.bad(Nets.line(3), 0, 0, 1, 0).ready(), 1);
        due("7 one post", Nets.net(1).ready(), 1);
        due("7 one post, doors 0 and 1", Nets.net(1, 0, 0, 0, 1).ready(), 1);
        due("7 one post, doors 0 and 3", Nets.net(1, 0, 0, 0, 3).ready(), 0);
        due("7 one post, all doors", Nets.net(1, 0, 0, 0, 3, 0, 1, 0, 2).ready(), 1);
        due("7 two posts", Nets.net(2).ready(), 0);
        due("7 a post without doors", Nets.net(3, 0, 0, 1, 0).ready(), 0);
        due("7 a door left out", Nets.net(2, 0, 1, 1, 0).ready(), 0);
        due("7 a door left out above", Nets.net(2, 0, 0, 1, 0, 0, 2, 1, 1).ready(), 0);
        due("7 in two parts", Nets.net(4, 0, 0, 1, 0, 2, 0, 3, 0).ready(), 0);
        due("7 in two parts of two doors", Nets.net(4, 0, 0, 1, 0, 0, 1, 1, 1, 2, 0, 3, 0, 2, 1, 3, 1).ready(), 0);
        due("7 the last post hangs first", Nets.net(4, 0, 0, 3, 0, 3, 1, 2, 0, 2, 1, 1, 0).ready(), 1);
        due("7 a far line", Nets.net(8, 0, 0, 7, 0, 7, 1, 6, 0, 6, 1, 5, 0, 5, 1, 4, 0, 4, 1, 3, 0, 3, 1, 2, 0, 2, 1, 1, 0).ready(), 1);
        NetWalkers x = Nets.line(3);
        x.part(1, 1);
        due("7 parted", x.ready(), 0);
    }

    private static void promise8Degree() {
        NetWalkers x = Nets.net(3, 0, 0, 1, 0, 1, 3, 1, 2);
        due("8 degree(0)", x.degree(0), 1);
        due("8 degree(1)", x.degree(1), 3);
        due("8 degree(2)", x.degree(2), 0);
        due("8 degree(3)", x.degree(3), UNKNOWN);
        due("8 degree(-1)", x.degree(-1), UNKNOWN);
        due("8 bad doors count", Nets.bad(x, 1, 0).degree(1), 3);
        x.part(1, 2);
        due("8 parted", x.degree(1), 1);
    }

    // ---- 2 walks

    private static void promise9Add() {
        NetWalkers x = new NetWalkers();
        due("9 add(0, 0)", x.add(0, 0), 1);
        due("9 add(0, 9)", x.add(0, 9), 2);
        due("9 add(1, 5)", x.add(1, 5), 1);
        due("9 add(2, 0)", x.add(2, 0), OUTSIDE);
        due("9 add(-1, 0)", x.add(-1, 0), OUTSIDE);
        due("9 add(0, 10)", x.add(0, 10), OUTSIDE);
        due("9 add(0, -1)", x.add(0, -1), OUTSIDE);
        due("9 told(2)", x.told(2), 2);
        for (int k = 3; k <= 40; k++) {
            due("9 add number " + k, x.add(0, k % 10), k);
        }
        due("9 number 41", x.add(0, 0), FULL);
        due("9 OUTSIDE ahead of FULL", x.add(0, 10), OUTSIDE);
        due("9 the other row is not full", x.add(1, 5), 2);
        due("9 told(2)", x.told(2), 40);
    }

    private static void promise10Clear() {
        NetWalkers x = Nets.add(Nets.add(Nets.line(3), 0, 1, 2, 3), 1, 4);
        due("10 clear(2)", x.clear(2), OUTSIDE);
        due("10 clear(-1)", x.clear(-1), OUTSIDE);
        due("10 clear(0)", x.clear(0), 3);
        due("10 clear(0) again", x.clear(0), 0);
        due("10 the other row stays", x.told(3), 1);
        due("10 walks without a row", x.walks(0, 0), NONE);
        due("10 add after it", x.add(0, 7), 1);
        due("10 clear(1)", x.clear(1), 1);
        due("10 told(3)", x.told(3), 0);
    }

    private static void promise11After() {
        NetWalkers x = Nets.add(Nets.line(4), 0, 0, 1, 1, 3, 0);
        int[] byTurns = {0, 1, 2, 3, 2, 3};
        int[] byDoors = {0, 1, 2, 3, 2, 1};
        for (int t = 0; t <= 5; t++) {
            due("11 by turns " + t, x.after(0, 0, t), byTurns[t]);
            due("11 by doors " + t, x.after(0, 1, t), byDoors[t]);
        }
        // Come by door 0, and 0: back by the same door.
        due("11 as if come by door 0", Nets.add(Nets.line(3), 0, 0).after(1, 0, 1), 0);
        due("11 and by door 1", Nets.add(Nets.line(3), 0, 1).after(1, 0, 1), 2);
        due("11 come by door 1, and 0", Nets.add(Nets.line(3), 0, 1, 0, 0).after(1, 0, 3), 2);
        due("11 big numbers go round", Nets.add(Nets.ring(5), 0, 9, 8, 7).after(0, 1, 3), 4);
        due("11 a bad door brings back", Nets.bad(Nets.add(Nets.line(3), 0, 1, 1), 1, 1).after(1, 0, 1), 1);
        due("11 by the same door", Nets.bad(Nets.add(Nets.line(3), 0, 1, 1), 1, 1).after(1, 0, 2), 0);
        due("11 one post", Nets.add(Nets.net(1), 0, 3, 4).after(0, 0, 2), 0);
        due("11 post 4", x.after(4, 0, 0), UNKNOWN);
        due("11 post -1", x.after(-1, 0, 0), UNKNOWN);
        due("11 how 2", x.after(0, 2, 0), OUTSIDE);
        due("11 how -1", x.after(0, -1, 0), OUTSIDE);
        due("11 t -1", x.after(0, 0, -1), OUTSIDE);
        due("11 t 6", x.after(0, 0, 6), OUTSIDE);
        due("11 UNKNOWN ahead of OUTSIDE", x.after(4, 2, 9), UNKNOWN);
        x.part(1, 1);
        due("11 not ready", x.after(0, 0, 0), STATE);
        due("11 OUTSIDE ahead of STATE", x.after(0, 0, 6), OUTSIDE);
    }

    private static void promise12Walks() {
        NetWalkers x = Nets.add(Nets.line(4), 0, 0, 1, 1, 3, 0);
        due("12 walks(0, 0)", x.walks(0, 0), 3);
        due("12 walks(0, 1)", x.walks(0, 1), 3);
        due("12 walks(3, 0)", x.walks(3, 0), 3);
        due("12 walks(1, 0)", x.walks(1, 0), 4);
        due("12 walks(2, 0)", x.walks(2, 0), NONE);
        due("12 walks(1, 1)", x.walks(1, 1), 4);
        due("12 walks(2, 1)", x.walks(2, 1), NONE);
        due("12 to the last number", Nets.add(Nets.line(4), 0, 0, 1, 1).walks(0, 0), 3);
        due("12 a number too few", Nets.add(Nets.line(4), 0, 0, 1).walks(0, 0), NONE);
        due("12 without a row", Nets.line(3).walks(0, 0), NONE);
        due("12 one post", Nets.net(1).walks(0, 1), 0);
        due("12 a bad door", Nets.bad(Nets.add(Nets.line(4), 0, 0, 1, 1), 1, 1).walks(0, 0), NONE);
        due("12 post 4", x.walks(4, 0), UNKNOWN);
        due("12 post -1", x.walks(-1, 2), UNKNOWN);
        due("12 how 2", x.walks(0, 2), OUTSIDE);
        due("12 how -1", x.walks(0, -1), OUTSIDE);
        x.part(0, 0);
        due("12 not ready", x.walks(0, 0), STATE);
        due("12 OUTSIDE ahead of STATE", x.walks(0, 2), OUTSIDE);
    }

    private static void promise13Fails() {
        NetWalkers x = Nets.add(Nets.line(4), 0, 0, 1, 1);
        // By turns post 1 sees 1 0 1 2, and post 2 sees 2 1 0 1; by doors post 2 sees 2 1 2 3, and post 3 sees 3 2 3 2.
        due("13 fails(0)", x.fails(0), 0b0110);
        due("13 fails(1)", x.fails(1), 0b1110);
        due("13 without a row", Nets.line(3).fails(0), 0b111);
        due("13 one post", Nets.net(1).fails(0), 0);
        due("13 how 2", x.fails(2), OUTSIDE);
        due("13 how -1", x.fails(-1), OUTSIDE);
        due("13 not ready", new NetWalkers().fails(1), STATE);
        due("13 OUTSIDE ahead of STATE", new NetWalkers().fails(2), OUTSIDE);
    }

    private static void promise14Sent() {
        // From 0 the walker is at 0 1 0 1 2 1 0 ..; at 0 it never is again while the hand of 1 is at door 0.
        NetWalkers x = Nets.line(3);
        due("14 line, all", x.sent(0, 0), 4);
        due("14 line, ahead", x.sent(0, 1), 1);
        due("14 line, ahead from the middle", x.sent(1, 1), 0);
        due("14 line, ring", x.sent(0, 2), 4);
        due("14 from the middle", x.sent(1, 0), 3);
        NetWalkers ring = Nets.ring(5);
        due("14 ring, all", ring.sent(2, 0), 4);
        due("14 ring, ring", ring.sent(2, 2), 10);
        // From 2 the walker goes to 1, to 0, and stays there.
        NetWalkers barred = Nets.bad(Nets.line(3), 0, 0);
        due("14 barred, all", barred.sent(2, 0), 2);
        due("14 barred, ahead", barred.sent(2, 1), 2);
        due("14 barred, ring", barred.sent(2, 2), 1);
        due("14 barred in, all", barred.sent(0, 0), NONE);
        due("14 barred in, ahead", barred.sent(0, 1), 0);
        // The hand moves on at a bad door, too.
        due("14 hands move on at bad doors", Nets.bad(Nets.net(2, 0, 0, 1, 0, 0, 1, 1, 1), 0, 0).sent(0, 0), 2);
        due("14 one post, all", Nets.net(1).sent(0, 0), 0);
        due("14 one post, ahead", Nets.net(1).sent(0, 1), 0);
        due("14 one post, ring", Nets.net(1).sent(0, 2), 1);
        due("14 post 3", x.sent(3, 0), UNKNOWN);
        due("14 post -1", x.sent(-1, 3), UNKNOWN);
        due("14 what 3", x.sent(0, 3), OUTSIDE);
        due("14 what -1", x.sent(0, -1), OUTSIDE);
        due("14 not ready", new NetWalkers().sent(0, 2), STATE);
        due("14 OUTSIDE ahead of STATE", new NetWalkers().sent(0, 3), OUTSIDE);
        due("14 the hands are anew in each call", x.sent(0, 0), 4);
    }

    private static void promise14SentFar() {
        // The ring is closed after 20000 steps from post 2, after 20001 from post 4.
        NetWalkers x = Nets.closedAt20000();
        due("14 all", x.sent(2, 0), 19);
        due("14 none ahead of a ring of 20000", x.sent(2, 1), 0);
        due("14 a ring of 20000", x.sent(2, 2), 20000);
        due("14 one ahead of a ring of 20000", x.sent(4, 1), SPENT);
        due("14 a ring of 20000 behind one", x.sent(4, 2), SPENT);
        due("14 all, where the ring is too long", x.sent(4, 0), 13);
        // Ahead of a ring of 19984 steps are 16 from post 3, and 15 from post 5.
        NetWalkers y = Nets.closedAt20000Behind16();
        due("14 16 ahead", y.sent(3, 1), 16);
        due("14 a ring of 19984", y.sent(3, 2), 19984);
        due("14 15 ahead", y.sent(5, 1), 15);
        due("14 all", y.sent(5, 0), 16);
        // A ring of 20128 steps, and one of more than 60000.
        NetWalkers far = Nets.closedAt20128();
        due("14 ahead of a ring of 20128", far.sent(6, 1), SPENT);
        due("14 a ring of 20128", far.sent(6, 2), SPENT);
        due("14 all", far.sent(6, 0), 15);
        NetWalkers farther = Nets.closedBehind60000();
        due("14 ahead of a ring of over 60000", farther.sent(0, 1), SPENT);
        due("14 a ring of over 60000", farther.sent(0, 2), SPENT);
        due("14 all", farther.sent(0, 0), 16);
        // A net that is slow to walk.
        NetWalkers z = Nets.slowToWalk();
        due("14 all, late", z.sent(0, 0), 3636);
    }

    private static void promise15Next() {
        due("15 line", Nets.line(4).next(2), 0b1111);
        due("15 ring", Nets.ring(5).next(3), 0b11111);
        due("15 one post", Nets.net(1).next(0), 1);
        due("15 one post with doors", Nets.net(1, 0, 0, 0, 1).next(0), 1);
        // A bad door turns one round into a walk to and fro.
        due("15 bad", Nets.bad(Nets.line(4), 1, 1).next(0), 0b0011);
        due("15 bad behind", Nets.bad(Nets.line(4), 1, 1).next(3), 0b1111);
        // A ring of 0, 1, 2 with post 3 outside it: who goes round inside never sees it.
        NetWalkers x = Nets.net(4, 0, 0, 1, 1, 1, 0, 2, 1, 2, 0, 0, 1, 0, 2, 3, 0);
        due("15 left out", x.next(0), 0b0111);
        due("15 left out, from 1", x.next(1), 0b0111);
        due("15 from 3", x.next(3), 0b1111);
        due("15 post 4", x.next(4), UNKNOWN);
        due("15 post -1", x.next(-1), UNKNOWN);
        due("15 not ready", new NetWalkers().next(0), STATE);
        due("15 UNKNOWN ahead of STATE", new NetWalkers().next(3), UNKNOWN);
    }

    // ---- 3 looks

    private static void promise16Look() {
        NetWalkers x = Nets.line(8);
        // The degrees; then the ends' doors, and those who see the ends; and so on inwards.
        int[][] due = {
            {0, 1, 1, 1, 1, 1, 1, 0}, {0, 1, 2, 2, 2, 2, 3, 4}, {0, 1, 2, 3, 3, 4, 5, 6}, {0, 1, 2, 3, 4, 5, 6, 7}};
        for (int depth = 0; depth <= 20; depth++) {
            for (int post = 0; post < 8; post++) {
                due("16 look(" + post + ", " + depth + ")", x.look(post, depth), due[Math.min(depth, 3)][post]);
            }
        }
        NetWalkers twins = Nets.net(2, 0, 0, 1, 0, 0, 1, 1, 1);
        due("16 twins", twins.look(1, 5), 0);
        due("16 a post's own doors", Nets.net(2, 0, 0, 1, 0, 0, 1, 0, 2, 1, 1, 1, 2).look(1, 9), 0);
        // Door 0 of post 0 leads to a door 1, that of post 1 to a door 2.
        NetWalkers crossed = Nets.net(2, 0, 0, 0, 1, 0, 2, 1, 0, 1, 1, 1, 2);
        due("16 other door numbers, depth 0", crossed.look(1, 0), 0);
        due("16 other door numbers, depth 1", crossed.look(1, 1), 1);
        due("16 bad doors are not seen", Nets.bad(twins, 0, 0).look(1, 20), 0);
        due("16 all doors", Nets.net(2, 0, 0, 1, 1, 1, 0, 0, 1, 0, 2, 1, 3, 1, 2, 0, 3).look(1, 20), 0);
        due("16 all doors but the last one", Nets.net(2, 0, 0, 1, 1, 1, 0, 0, 1, 0, 2, 0, 3, 1, 3, 1, 2).look(1, 20), 0);
        due("16 the last door alone", Nets.net(3, 0, 0, 0, 1, 0, 2, 1, 2, 1, 0, 1, 1, 0, 3, 2, 0, 1, 3, 2, 1).look(1, 1), 1);
        due("16 the least post has class 0", Nets.net(3, 0, 0, 1, 1, 1, 0, 2, 0).look(0, 0), 0);
        due("16 one post", Nets.net(1).look(0, 20), 0);
        due("16 post 8", x.look(8, 0), UNKNOWN);
        due("16 post -1", x.look(-1, 21), UNKNOWN);
        due("16 depth 21", x.look(0, 21), OUTSIDE);
        due("16 depth -1", x.look(0, -1), OUTSIDE);
        due("16 not ready", new NetWalkers().look(0, 0), STATE);
        due("16 OUTSIDE ahead of STATE", new NetWalkers().look(0, 21), OUTSIDE);
    }

    private static void promise17Classes() {
        NetWalkers x = Nets.line(8);
        int[] due = {2, 5, 7, 8};
        for (int depth = 0; depth <= 20; depth++) {
            due("17 classes(" + depth + ")", x.classes(depth), due[Math.min(depth, 3)]);
        }
        due("17 ring", Nets.ring(6).classes(20), 1);
        due("17 one post", Nets.net(1).classes(0), 1);
        due("17 depth 21", x.classes(21), OUTSIDE);
        due("17 depth -1", x.classes(-1), OUTSIDE);
        due("17 not ready", new NetWalkers().classes(0), STATE);
        due("17 OUTSIDE ahead of STATE", new NetWalkers().classes(21), OUTSIDE);
    }

    private static void promise18Deep() {
        int[] due = {0, 0, 1, 1, 1, 2, 2, 3};
        for (int posts = 1; posts <= 8; posts++) {
            due("18 line of " + posts, Nets.line(posts).deep(), due[posts - 1]);
        }
        due("18 ring", Nets.ring(6).deep(), 0);
        due("18 bad doors are not seen", Nets.bad(Nets.ring(6), 0, 0).deep(), 0);
        due("18 a deep net", Nets.deep().deep(), 6);
        due("18 a deep net, classes(5)", Nets.deep().classes(5), 7);
        due("18 a deep net, classes(6)", Nets.deep().classes(6), 8);
        due("18 not ready", new NetWalkers().deep(), STATE);
    }

    private static void promise19Apart() {
        NetWalkers x = Nets.line(8);
        due("19 apart(0, 1)", x.apart(0, 1), 0);
        due("19 apart(0, 7)", x.apart(0, 7), 1);
        due("19 apart(7, 0)", x.apart(7, 0), 1);
        due("19 apart(2, 3)", x.apart(2, 3), 2);
        due("19 apart(4, 5)", x.apart(4, 5), 2);
        due("19 apart(3, 4)", x.apart(3, 4), 3);
        due("19 apart(2, 2)", x.apart(2, 2), NONE);
        due("19 ring", Nets.ring(7).apart(1, 5), NONE);
        due("19 the deepest pair", deepestApart(Nets.deep()), 6);
        due("19 one post", Nets.net(1).apart(0, 0), NONE);
        due("19 post 8", x.apart(0, 8), UNKNOWN);
        due("19 post -1", x.apart(-1, 0), UNKNOWN);
        due("19 not ready", new NetWalkers().apart(0, 1), STATE);
        due("19 UNKNOWN ahead of STATE", new NetWalkers().apart(3, 0), UNKNOWN);
    }

    private static int deepestApart(NetWalkers x) {
        int deepest = NONE;
        for (int pair = 0; pair < 64; pair++) {
            deepest = Math.max(deepest, x.apart(pair / 8, pair % 8));
        }
        return deepest;
    }

    // ---- 4 two

    private static void promise20Meet() {
        // Row 1 1 1: from 0 the walker is at 0 1 2 3 ..., from 2 at 2 3 2 1; the other row is 0.
        NetWalkers x = Nets.add(Nets.add(Nets.line(4), 0, 1, 1, 1), 1, 0);
        due("20 at once", x.meet(2, 2, 20, true), 0);
        due("20 on the way they do not meet", Nets.add(Nets.line(3), 0, 1).meet(0, 1, 0, false), NONE);
        due("20 one row", x.meet(0, 2, 0, false), 2);
        due("20 the second waits", x.meet(0, 2, 2, false), 2);
        due("20 the first stands at its end", x.meet(0, 3, 3, false), 3);
        due("20 the second comes after its wait", x.meet(3, 0, 5, false), 3);
        due("20 to one who stands at the end", Nets.add(Nets.line(3), 0, 0).meet(0, 2, 2, false), 3);
        due("20 the other row", x.meet(0, 2, 0, true), 1);
        due("20 as if come by door 0", Nets.add(Nets.net(2, 0, 0, 1, 0, 0, 1, 0, 2), 0, 0).meet(0, 1, 5, true), 1);
        due("20 the second, too", Nets.add(Nets.net(2, 0, 0, 1, 0, 0, 1, 0, 2), 1, 0).meet(1, 0, 5, true), 6);
        due("20 past one another", x.meet(0, 2, 1, true), NONE);
        due("20 the other row, and a wait", x.meet(1, 3, 1, true), 3);
        due("20 after a long wait", Nets.add(Nets.net(2, 0, 0, 1, 0), 1, 0).meet(0, 1, 20, true), 21);
        due("20 bad doors", Nets.bad(Nets.add(Nets.net(2, 0, 0, 1, 0), 1, 0), 1, 0).meet(0, 1, 20, true), NONE);
        due("20 nobody walks", Nets.net(2, 0, 0, 1, 0).meet(0, 1, 0, true), NONE);
        due("20 post 4", x.meet(4, 0, 0, true), UNKNOWN);
        due("20 post -1", x.meet(0, -1, 21, true), UNKNOWN);
        due("20 wait 21", x.meet(0, 1, 21, false), OUTSIDE);
        due("20 wait -1", x.meet(0, 1, -1, false), OUTSIDE);
        due("20 not ready", new NetWalkers().meet(0, 1, 0, false), STATE);
        due("20 STATE at one post, too", new NetWalkers().meet(1, 1, 0, false), STATE);
        due("20 OUTSIDE ahead of STATE", new NetWalkers().meet(0, 1, 21, false), OUTSIDE);
    }

    private static void promise21Worst() {
        // Of two posts, one walks and one waits for w: they meet at 1, but for wait 0, where both walk.
        NetWalkers pair = Nets.net(2, 0, 0, 1, 0);
        due("21 nobody walks", pair.worst(0, true), NONE);
        Nets.add(pair, 0, 0);
        due("21 one walks", pair.worst(20, true), 1);
        due("21 both walk", pair.worst(0, false), NONE);
        due("21 one of the waits never", pair.worst(3, false), NONE);
        // Only the second walks: the latest is behind the longest wait.
        NetWalkers second = Nets.add(Nets.net(2, 0, 0, 1, 0), 1, 0);
        due("21 behind the wait", second.worst(20, true), 21);
        due("21 behind a shorter wait", second.worst(7, true), 8);
        // Only the first walks, and it cannot leave the post that has more doors.
        due("21 the pair 1, 0", Nets.add(Nets.net(2, 0, 0, 1, 0, 1, 1, 1, 2), 0, 1).worst(0, true), NONE);
        due("21 the pair 0, 1", Nets.add(Nets.net(2, 0, 0, 1, 0, 0, 1, 0, 2), 0, 1).worst(0, true), NONE);
        NetWalkers ring = Nets.add(Nets.ring(4), 0, 1, 0, 0, 1, 1, 1, 2, 9);
        due("21 ring", ring.worst(3, true), 5);
        due("21 one post", Nets.net(1).worst(20, false), 0);
        due("21 one post with doors", Nets.net(1, 0, 0, 0, 1).worst(0, true), 0);
        due("21 w 21", ring.worst(21, true), OUTSIDE);
        due("21 w -1", ring.worst(-1, true), OUTSIDE);
        due("21 not ready", new NetWalkers().worst(0, true), STATE);
        due("21 one post, not ready", Nets.net(1, 0, 0, 0, 2).worst(0, true), STATE);
        due("21 OUTSIDE ahead of STATE", new NetWalkers().worst(21, true), OUTSIDE);
    }

    // ---- 5 rings

    private static void promise22Ring() {
        int[][] rows = {{0}, {0, 0, 1}, {0, 0, 1, 0, 0, 1}};
        NetWalkers x = new NetWalkers();
        for (int n = 4; n >= 2; n--) {
            int[] row = rows[n - 2];
            due("22 number 0 of " + n, x.ring(n, 0), row[0]);
            due("22 length of " + n, x.ring(n, -1), row.length);
            for (int i = 0; i < 14; i++) {
                due("22 ring(" + n + ", " + i + ")", x.ring(n, i), i < row.length ? row[i] : NONE);
            }
            due("22 ring(" + n + ", -2)", x.ring(n, -2), NONE);
        }
        due("22 n 1", x.ring(1, -1), OUTSIDE);
        due("22 n 5", x.ring(5, 0), OUTSIDE);
        due("22 n -1", x.ring(-1, -1), OUTSIDE);
        due("22 the net is not asked", Nets.line(3).ring(3, -1), 3);
        due("22 the net stays", x.told(0), 3);
    }

    private static void promise23Told() {
        NetWalkers x = Nets.bad(Nets.add(Nets.add(Nets.line(4), 0, 1, 2, 3), 1, 4, 5), 0, 0, 0, 3, 1, 1, 3, 2);
        int[] due = {4, 3, 3, 2, 4};
        for (int what = 0; what <= 4; what++) {
            due("23 told(" + what + ")", x.told(what), due[what]);
        }
        due("23 told(5)", x.told(5), OUTSIDE);
        due("23 told(-1)", x.told(-1), OUTSIDE);
    }

    // ---- all

    private static void refusedCallsChangeNothing() {
        NetWalkers calm = Nets.add(Nets.add(Nets.bad(Nets.line(4), 1, 1), 0, 1, 0, 2), 1, 3, 1);
        NetWalkers tried = Nets.add(Nets.add(Nets.bad(Nets.line(4), 1, 1), 0, 1, 0, 2), 1, 3, 1);
        refuse(tried);
        CHECKS.due("a net after refused calls", shown(tried), shown(calm));
        NetWalkers rough = Nets.add(Nets.net(4, 0, 1, 3, 3), 0, 1, 2);
        NetWalkers roughTried = Nets.add(Nets.net(4, 0, 1, 3, 3), 0, 1, 2);
        refuse(roughTried);
        CHECKS.due("a net that is not ready after refused calls", shown(roughTried), shown(rough));
    }

    private static void refuse(NetWalkers x) {
        int[] wrong = {-7, -1, 4, 9, 21, 50};
        for (int number : wrong) {
            if (number < 1 || number > 8) {
                x.posts(number);
            }
            x.join(number, 0, 0, 3);
            x.join(0, 3, 1, number);
            x.join(0, 1, 0, 1);
            x.part(number, 0);
            x.part(0, number);
            x.bad(number, 0, true);
            x.bad(0, number, true);
            x.add(0, number == 4 || number == 9 ? 10 : number);
            x.add(number, 1);
            x.clear(number);
            x.after(0, 0, number);
            x.sent(0, number);
            x.look(0, number);
            x.meet(0, 1, number, false);
            x.worst(number, true);
            x.ring(number, 0);
            x.told(number);
        }
    }

    /** Everything that an object answers, and the parts that only its next answers show. */
    private static String shown(NetWalkers x) {
        StringBuilder text = new StringBuilder();
        for (int what = 0; what <= 4; what++) {
            text.append(x.told(what)).append(' ');
        }
        for (int post = 0; post < x.told(0); post++) {
            for (int door = 0; door < 4; door++) {
                int was = x.bad(post, door, false);
                text.append(x.leads(post, door)).append(was == 1 ? "bad " : " ");
                x.bad(post, door, was == 1);
            }
            text.append(x.walks(post, 0)).append(' ').append(x.sent(post, 1)).append(' ');
        }
        x.posts(2);
        x.join(0, 0, 1, 0);
        x.join(0, 1, 0, 2);
        for (int t = 0; t <= x.told(2); t++) {
            text.append(x.after(0, 0, t)).append(x.after(0, 1, t));
        }
        for (int wait = 0; wait < 4; wait++) {
            text.append(x.meet(0, 1, wait, true)).append(' ');
        }
        return text.toString();
    }

    /** No number, however far off, is answered by anything but a refusal. */
    private static void farNumbersAreRefused() {
        NetWalkers x = Nets.add(Nets.line(3), 0, 1, 2);
        int[] far = {Integer.MIN_VALUE, Integer.MIN_VALUE + 1, -1000, 1000, 1 << 30, Integer.MAX_VALUE};
        for (int n : far) {
            due("posts", x.posts(n), OUTSIDE);
            due("join", x.join(n, 0, 0, n), UNKNOWN);
            due("join", x.join(0, n, 0, 2), UNKNOWN);
            due("part", x.part(n, n), UNKNOWN);
            due("bad", x.bad(0, n, true), UNKNOWN);
            due("leads", x.leads(n, 0), UNKNOWN);
            due("degree", x.degree(n), UNKNOWN);
            due("add", x.add(n, 0), OUTSIDE);
            due("add", x.add(1, n), OUTSIDE);
            due("clear", x.clear(n), OUTSIDE);
            due("after", x.after(0, 0, n), OUTSIDE);
            due("after", x.after(n, 0, 0), UNKNOWN);
            due("walks", x.walks(0, n), OUTSIDE);
            due("fails", x.fails(n), OUTSIDE);
            due("sent", x.sent(0, n), OUTSIDE);
            due("sent", x.sent(n, 0), UNKNOWN);
            due("next", x.next(n), UNKNOWN);
            due("look", x.look(n, 0), UNKNOWN);
            due("look", x.look(0, n), OUTSIDE);
            due("classes", x.classes(n), OUTSIDE);
            due("apart", x.apart(n, n), UNKNOWN);
            due("meet", x.meet(0, n, 0, true), UNKNOWN);
            due("meet", x.meet(0, 1, n, true), OUTSIDE);
            due("worst", x.worst(n, false), OUTSIDE);
            due("ring", x.ring(n, 0), OUTSIDE);
            due("ring", x.ring(3, n), NONE);
            due("told", x.told(n), OUTSIDE);
        }
        due("the net stays", x.ready(), 1);
    }
}
