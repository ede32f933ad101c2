/** Long mixed runs of calls, right and wrong ones, that the program and the model must answer alike. */
public final class AgainstModelTest {
    private static final int RUNS = 600;
    private static final int CALLS_MOST = 512;

    private static final Checks CHECKS = new Checks();

    // The same numbers in every run of this test.
    private static long seed = 20261119L;

    public static void main(String[] args) {
        for (int run = 0; run < RUNS; run++) {
            new Run(run).play();
        }
        CHECKS.end();
    }

    private static int draw(int bound) {
        seed = seed * 6364136223846793005L + 1442695040888963407L;
        return (int) ((seed >>> 33) % bound);
    }

    private static boolean chance(int percent) {
        return draw(100) < percent;
    }

    private static final class Run {
        private final int number;
        private final NetWalkers real = new NetWalkers();
        private final Model model = new Model();
        private int calls = 0;

        Run(int number) {
            this.number = number;
        }

        void play() {
            askAnything();
            while (calls < CALLS_MOST - 140) {
                if (chance(90)) {
                    joinReadyNet(1 + draw(8));
                }
                for (int k = draw(12); k > 0; k--) {
                    ask("bad", draw(8), draw(4), draw(2), 0);
                }
                for (int k = draw(45); k > 0; k--) {
                    ask("add", chance(70) ? 0 : 1, draw(chance(50) ? 10 : 4), 0, 0);
                }
                for (int k = 20 + draw(40); k > 0; k--) {
                    askAnything();
                }
            }
        }

        /** Draws degrees, and joins the doors that they ask for at random; most such nets hang together. */
        private void joinReadyNet(int posts) {
            ask("posts", posts, 0, 0, 0);
            int[] doors = new int[posts * 4];
            int count = 0;
            for (int post = 0; post < posts; post++) {
                for (int door = 1 + draw(4); door > 0; door--) {
                    doors[count++] = post * 4 + door - 1;
                }
            }
            while (count > 1) {
                int one = doors[--count];
                int pick = draw(count);
                int two = doors[pick];
                doors[pick] = doors[--count];
                ask("join", one / 4, one % 4, two / 4, two % 4);
            }
        }

        private void askAnything() {
            int post = chance(92) ? draw(model.told(0)) : draw(12) - 2;
            int other = chance(92) ? draw(model.told(0)) : draw(12) - 2;
            int two = chance(92) ? draw(2) : draw(6) - 2;
            int length = model.told(2);
            switch (draw(26)) {
                case 0 -> ask("posts", chance(10) ? draw(8) + 1 : chance(50) ? 0 : 9, 0, 0, 0);
                case 1 -> ask("join", post, draw(6) - 1, other, draw(6) - 1);
                case 2 -> ask("part", post, chance(30) ? draw(4) : 4 - 5 * draw(2), 0, 0);
                case 3 -> ask("bad", post, draw(6) - 1, draw(2), 0);
                case 4 -> ask("leads", post, draw(6) - 1, 0, 0);
                case 5 -> ask("ready", 0, 0, 0, 0);
                case 6 -> ask("degree", post, 0, 0, 0);
                case 7, 8 -> ask("add", two, draw(12) - 1, 0, 0);
                case 9 -> ask("clear", chance(20) ? two : 2, 0, 0, 0);
                case 10 -> ask("after", post, two, chance(90) ? draw(length + 1) : length + 1 - draw(2) * (length + 2), 0);
                case 11 -> ask("walks", post, two, 0, 0);
                case 12 -> ask("fails", two, 0, 0, 0);
                case 13, 14 -> ask("sent", post, draw(chance(95) ? 3 : 5) - (chance(3) ? 1 : 0), 0, 0);
                case 15 -> ask("next", post, 0, 0, 0);
                case 16 -> ask("look", post, draw(23) - 1, 0, 0);
                case 17 -> ask("classes", draw(23) - 1, 0, 0, 0);
                case 18 -> ask("deep", 0, 0, 0, 0);
                case 19 -> ask("apart", post, other, 0, 0);
                case 20, 21 -> ask("meet", post, other, draw(23) - 1, draw(2));
                case 22, 23 -> ask("worst", chance(50) ? draw(3) : draw(23) - 1, draw(2), 0, 0);
                case 24 -> ask("ring", draw(6), draw(16) - 2, 0, 0);
                default -> ask("told", draw(7) - 1, 0, 0, 0);
            }
        }

        private void ask(String call, int a, int b, int c, int d) {
            calls++;
            int got = answer(call, a, b, c, d);
            int want = due(call, a, b, c, d);
            CHECKS.due("run " + number + ", call " + calls + ": " + call + " " + a + " " + b + " " + c + " " + d, got, want);
        }

        private int answer(String call, int a, int b, int c, int d) {
            return switch (call) {
                case "posts" -> real.posts(a);
                case "join" -> real.join(a, b, c, d);
                case "part" -> real.part(a, b);
                case "bad" -> real.bad(a, b, c == 1);
                case "leads" -> real.leads(a, b);
                case "ready" -> real.ready();
                case "degree" -> real.degree(a);
                case "add" -> real.add(a, b);
                case "clear" -> real.clear(a);
                case "after" -> real.after(a, b, c);
                case "walks" -> real.walks(a, b);
                case "fails" -> real.fails(a);
                case "sent" -> real.sent(a, b);
                case "next" -> real.next(a);
                case "look" -> real.look(a, b);
                case "classes" -> real.classes(a);
                case "deep" -> real.deep();
                case "apart" -> real.apart(a, b);
                case "meet" -> real.meet(a, b, c, d == 1);
                case "worst" -> real.worst(a, b == 1);
                case "ring" -> real.ring(a, b);
                default -> real.told(a);
            };
        }

        private int due(String call, int a, int b, int c, int d) {
            return switch (call) {
                case "posts" -> model.posts(a);
                case "join" -> model.join(a, b, c, d);
                case "part" -> model.part(a, b);
                case "bad" -> model.bad(a, b, c == 1);
                case "leads" -> model.leads(a, b);
                case "ready" -> model.ready();
                case "degree" -> model.degree(a);
                case "add" -> model.add(a, b);
                case "clear" -> model.clear(a);
                case "after" -> model.after(a, b, c);
                case "walks" -> model.walks(a, b);
                case "fails" -> model.fails(a);
                case "sent" -> model.sent(a, b);
                case "next" -> model.next(a);
                case "look" -> model.look(a, b);
                case "classes" -> model.classes(a);
                case "deep" -> model.deep();
                case "apart" -> model.apart(a, b);
                case "meet" -> model.meet(a, b, c, d == 1);
                case "worst" -> model.worst(a, b == 1);
                case "ring" -> model.ring(a, b);
                default -> model.told(a);
            };
        }
    }
}
