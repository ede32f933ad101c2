/** Nets to ask about. */
final class Nets {
    private Nets() { }

    /** joins: a post, its door, a post, its door, and so on. */
    static NetWalkers net(int posts, int... joins) {
        NetWalkers x = new NetWalkers();
        x.posts(posts);
        for (int k = 0; k + 3 < joins.length; k += 4) {
            x.join(joins[k], joins[k + 1], joins[k + 2], joins[k + 3]);
        }
        return x;
    }

    static NetWalkers add(NetWalkers x, int which, int... numbers) {
        for (int number : numbers) {
            x.add(which, number);
        }
        return x;
    }

    /** The same number, so many times. */
    static NetWalkers addMany(NetWalkers x, int which, int number, int times) {
        for (int k = 0; k < times; k++) {
            x.add(which, number);
        }
        return x;
    }

    /** doors: a post, its door, and so on. */
    static NetWalkers bad(NetWalkers x, int... doors) {
        for (int k = 0; k + 1 < doors.length; k += 2) {
            x.bad(doors[k], doors[k + 1], true);
        }
        return x;
    }

    /** Door 0 of each post leads to door 1 of the one after it. */
    static NetWalkers ring(int posts) {
        NetWalkers x = net(posts);
        for (int post = 0; post < posts; post++) {
            x.join(post, 0, (post + 1) % posts, 1);
        }
        return x;
    }

    /** Door 0 of each post leads to the one before, door 1 to the one behind; post 0 has door 0 alone. */
    static NetWalkers line(int posts) {
        NetWalkers x = net(posts);
        for (int post = 0; post + 1 < posts; post++) {
            x.join(post, post == 0 ? 0 : 1, post + 1, 0);
        }
        return x;
    }

    /** Post 0 has so many doors, and door k leads to post k + 1, that has door 0 alone. */
    static NetWalkers star(int leaves) {
        NetWalkers x = net(leaves + 1);
        for (int leaf = 0; leaf < leaves; leaf++) {
            x.join(0, leaf, leaf + 1, 0);
        }
        return x;
    }

    /** Each post is joined to each other one, of so many posts. */
    static NetWalkers full(int posts) {
        NetWalkers x = net(posts);
        for (int a = 0; a < posts; a++) {
            for (int b = a + 1; b < posts; b++) {
                x.join(a, b - 1, b, a);
            }
        }
        return x;
    }

    /** A net of 8 posts that a search found; its doors are told as 4 * post + door. */
    static NetWalkers found(int[] pairs, int... badDoors) {
        NetWalkers x = net(8);
        for (int k = 0; k + 1 < pairs.length; k += 2) {
            x.join(pairs[k] / 4, pairs[k] % 4, pairs[k + 1] / 4, pairs[k + 1] % 4);
        }
        for (int door : badDoors) {
            x.bad(door / 4, door % 4, true);
        }
        return x;
    }

    /** A net in which one must look 6 deep, found by a search. */
    static NetWalkers deep() {
        return found(new int[] {0, 16, 1, 10, 2, 9, 4, 20, 5, 14, 6, 13, 8, 28, 12, 26, 17, 18, 21, 30, 22, 29, 24, 25});
    }

    /** THE RING is closed after 20000 steps from post 2, after 20001 from post 4. */
    static NetWalkers closedAt20000() {
        return found(new int[] {0, 19, 1, 23, 2, 29, 3, 26, 4, 12, 5, 8, 6, 31, 7, 21, 9, 15, 10, 13, 11, 16,
            14, 27, 17, 24, 18, 30, 20, 28, 22, 25}, 5, 11, 12, 21, 26, 28);
    }

    /** Ahead of a ring of 19984 steps are 16 from post 3, and 15 from post 5. */
    static NetWalkers closedAt20000Behind16() {
        return found(new int[] {0, 19, 1, 23, 2, 4, 3, 27, 5, 18, 6, 22, 7, 31, 8, 17, 9, 28, 10, 25, 11, 16,
            12, 29, 13, 26, 14, 21, 15, 20, 24, 30}, 7, 9, 21, 25, 27, 30);
    }

    /** A ring of 20128 steps from post 6. */
    static NetWalkers closedAt20128() {
        return found(new int[] {0, 9, 1, 24, 2, 23, 3, 21, 4, 28, 5, 20, 6, 19, 7, 15, 8, 16, 10, 31, 11, 12,
            13, 29, 14, 17, 18, 26, 22, 30, 25, 27}, 1, 27);
    }

    /** A ring of more than 60000 steps from post 0. */
    static NetWalkers closedBehind60000() {
        return found(new int[] {0, 8, 1, 10, 2, 12, 3, 23, 4, 17, 5, 20, 6, 28, 7, 26, 9, 19, 11, 27, 13,
            16, 14, 22, 15, 30, 18, 31, 21, 25, 24, 29}, 9);
    }

    /** A net that one who is sent on from post 0 walks late: in 3636 steps. */
    static NetWalkers slowToWalk() {
        return found(new int[] {0, 5, 1, 13, 2, 24, 3, 10, 4, 15, 6, 21, 7, 25, 8, 26, 9, 30, 11, 12, 14, 29,
            16, 22, 17, 19, 18, 23, 20, 31, 27, 28}, 0, 1, 2, 6, 8, 9, 14, 17, 18, 22);
    }

    /** No door leads to post 7; THE RING from post 0 is closed after 15359 steps. */
    static NetWalkers shut() {
        return found(new int[] {28, 10, 4, 25, 11, 27, 14, 20, 5, 23, 6, 17, 8, 21, 7, 2, 22, 16, 3, 24, 19, 13,
            18, 1, 15, 29, 12, 26, 0, 9}, 10, 15, 20);
    }

    /** Who goes by the next door from post 3 comes to the last post after 26 steps. */
    static NetWalkers lateByTheNextDoor() {
        return found(new int[] {24, 30, 5, 29, 4, 9, 27, 11, 20, 12, 17, 0, 8, 1, 26, 15, 14, 3, 13, 2, 18, 7,
            16, 10, 28, 31, 6, 25});
    }
}
