import java.util.Random;

/** Long runs of calls, drawn from fixed seeds, on a CaveParty and on the plain copy of the document. */
public final class OracleTests {
    private static int wrong = 0;

    private static void same(String where, String call, long got, long want) {
        if (got != want) {
            wrong++;
            if (wrong <= 40) {
                System.out.println(where + ": " + call + " answered " + got + ", due is " + want);
            }
        }
    }

    private static long bit(boolean b) {
        return b ? 1L : 0L;
    }

    /** Now and then a number that is one off the range, or far from it. */
    private static int near(Random r, int from, int to) {
        int chance = r.nextInt(40);
        if (chance == 0) {
            return r.nextInt();
        }
        return chance == 1 ? (r.nextBoolean() ? from - 1 : to + 1) : from + r.nextInt(Math.max(1, to - from + 1));
    }

    private static final class Pair {
        final String name;
        final CaveParty x = new CaveParty();
        final PlainParty y = new PlainParty();

        Pair(String name) {
            this.name = name;
        }

        /** With gaps, passages of all numbers are dug first, so that those that stay may have any. */
        void map(Random r, int n, int m, boolean gaps) {
            caves(n);
            for (int i = 0; i < (gaps ? 80 : m) && x.count(7) < 18; i++) {
                dig(r.nextInt(n), r.nextInt(n));
            }
            for (int i = 0; i < 200 && x.count(7) > m; i++) {
                fillUp(r.nextInt(18));
            }
        }

        void caves(int n) {
            same(name, "caves(" + n + ")", bit(x.caves(n)), bit(y.caves(n)));
        }

        void dig(int a, int b) {
            same(name, "passage(" + a + ", " + b + ")", x.passage(a, b), y.passage(a, b));
        }

        void fillUp(int p) {
            same(name, "drop(" + p + ")", bit(x.drop(p)), bit(y.drop(p)));
        }

        void mouth(int c) {
            same(name, "mouth(" + c + ")", bit(x.mouth(c)), bit(y.mouth(c)));
        }

        void order(int what, int c, int p) {
            same(name, "order(" + what + ", " + c + ", " + p + ")", x.order(what, c, p), y.order(what, c, p));
        }

        void fewest(int law) {
            same(name, "fewest(" + law + ")", x.fewest(law), y.fewest(law));
            plan();
        }

        void plan() {
            int length = y.plan(-1, 0);
            for (int i = -2; i <= length + 1; i++) {
                for (int what = -1; what <= 3; what++) {
                    same(name, "plan(" + i + ", " + what + ")", x.plan(i, what), y.plan(i, what));
                }
            }
        }

        void witness(int law, int k) {
            same(name, "witness(" + law + ", " + k + ")", x.witness(law, k), y.witness(law, k));
        }

        void judge() {
            for (int law = -1; law <= 3; law++) {
                same(name, "judge(" + law + ")", x.judge(law), y.judge(law));
            }
        }

        void lookAll() {
            for (int what = -1; what <= 11; what++) {
                same(name, "count(" + what + ")", x.count(what), y.count(what));
            }
            for (int which = -1; which <= 18; which++) {
                for (int what = -1; what <= 8; what++) {
                    same(name, "look(" + which + ", " + what + ")", x.look(which, what), y.look(which, what));
                }
            }
            judge();
            cuts();
        }

        void cuts() {
            for (int i = -1; i <= 13; i++) {
                same(name, "cut(" + i + ")", x.cut(i), y.cut(i));
            }
        }

        void width() {
            same(name, "width()", x.width(), y.width());
            for (int c = 0; c < 12; c++) {
                same(name, "look(" + c + ", 3)", x.look(c, 3), y.look(c, 3));
            }
            cuts();
        }

        void anyCall(Random r, int n) {
            switch (r.nextInt(24)) {
                case 0: mouth(near(r, 0, n - 1)); break;
                case 1: case 2: same(name, "undo()", bit(x.undo()), bit(y.undo())); break;
                case 3: {
                    int i = near(r, 0, n - 1);
                    int c = near(r, 0, n - 1);
                    same(name, "place(" + i + ", " + c + ")", bit(x.place(i, c)), bit(y.place(i, c)));
                    break;
                }
                case 4: if (r.nextInt(12) == 0) { x.anew(); y.anew(); } break;
                case 5: if (r.nextInt(12) == 0) { dig(near(r, 0, n - 1), near(r, 0, n - 1)); } break;
                case 6: if (r.nextInt(12) == 0) { fillUp(near(r, 0, 17)); } break;
                case 7: if (r.nextInt(8) == 0) { width(); } break;
                case 8: plan(); break;
                default: anyOrder(r, n);
            }
        }

        /** Mostly orders that can be done, since only these lead anywhere. */
        void anyOrder(Random r, int n) {
            int what = near(r, 0, 3);
            int c = near(r, 0, n - 1);
            int p = near(r, 0, 17);
            if (r.nextInt(4) != 0) {
                what = r.nextInt(6) == 0 ? r.nextInt(2) : 2 + r.nextInt(2);
                for (int i = 0; i < 60 && what != 0 && y.look(c, 0) <= 0; i++) {
                    c = r.nextInt(n);
                }
                for (int i = 0; i < 200 && what >= 2 && y.look(p, 4) != c && y.look(p, 5) != c; i++) {
                    p = r.nextInt(18);
                }
            }
            order(what, c, p);
        }
    }

    private static void searches(int seeds) {
        for (int seed = 0; seed < seeds; seed++) {
            Random r = new Random(seed);
            Pair pair = new Pair("search " + seed);
            pair.lookAll();
            int n = 1 + r.nextInt(seed % 3 == 0 ? 12 : 6);
            pair.map(r, n, r.nextInt(19), r.nextInt(3) == 0);
            for (int i = 0; i < 150; i++) {
                pair.anyCall(r, n);
                pair.lookAll();
            }
        }
    }

    /** A plan's own orders, done and judged by every law, with the mouth as it is and moved. */
    private static void playPlan(Pair pair, Random r, int n) {
        int length = pair.x.plan(-1, 0);
        for (int i = 0; i < length; i++) {
            int what = pair.x.plan(i, 0);
            pair.order(what == 2 && r.nextBoolean() ? 3 : what, pair.x.plan(i, 1), pair.x.plan(i, 2));
            pair.judge();
        }
        pair.mouth(r.nextInt(n));
        pair.lookAll();
        pair.plan();
        pair.x.anew();
        pair.y.anew();
    }

    private static void plans(int seeds) {
        for (int seed = 0; seed < seeds; seed++) {
            Random r = new Random(1000 + seed);
            Pair pair = new Pair("plan " + seed);
            int n = 1 + r.nextInt(6);
            pair.map(r, n, r.nextInt(9), r.nextInt(3) == 0);
            pair.mouth(r.nextInt(n));
            for (int law = 0; law < 3; law++) {
                pair.fewest(law);
                for (int k = 1; k <= 3; k++) {
                    pair.witness(law, k);
                }
                pair.plan();
                playPlan(pair, r, n);
            }
        }
    }

    private static void widths(int seeds) {
        for (int seed = 0; seed < seeds; seed++) {
            Random r = new Random(5000 + seed);
            Pair pair = new Pair("width " + seed);
            pair.map(r, 1 + r.nextInt(seed % 10 == 0 ? 10 : 7), r.nextInt(19), false);
            pair.width();
        }
    }

    /** Any call behind any other, new maps too, up to the 512th call of a party. */
    private static void wholeRuns(int seeds) {
        for (int seed = 0; seed < seeds; seed++) {
            Random r = new Random(9000 + seed);
            Pair pair = new Pair("whole run " + seed);
            int n = 0;
            for (int i = 0; i < 500; i++) {
                int chance = r.nextInt(60);
                if (chance == 0 || i == 3) {
                    pair.caves(near(r, 0, r.nextInt(4) == 0 ? 9 : 6));
                    n = pair.y.count(6);
                } else if (chance < 8) {
                    pair.dig(near(r, 0, n - 1), near(r, 0, n - 1));
                } else if (chance < 10) {
                    pair.fewest(near(r, 0, 2));
                } else if (chance < 12) {
                    pair.witness(near(r, 0, 2), near(r, 1, 3));
                } else {
                    pair.anyCall(r, Math.max(1, n));
                }
                if (i % 25 == 0) {
                    pair.lookAll();
                    pair.plan();
                }
            }
        }
    }

    public static void main(String[] args) {
        searches(120);
        wholeRuns(40);
        plans(250);
        widths(200);
        System.out.println(wrong == 0 ? "all answers are as due" : wrong + " answers are not as due");
        if (wrong != 0) {
            System.exit(1);
        }
    }
}
