/** Each promise of the document by hand: ordinary calls, the edges that it names, wrong arguments. */
public final class PromiseTests extends Checks {
    private static void promise1() {
        CaveParty x = new CaveParty();
        due("NONE", NONE, -1);
        counts(x, "new", 0, 0, 0, 0, 0, 1, 0, 0, 0, 0, 0, NONE);
        due("new: look", x.look(0, 0), NONE);
        due("new: passage", x.passage(0, 1), NONE);
        due("new: drop", x.drop(0), false);
        due("new: mouth", x.mouth(0), false);
        due("new: order", x.order(0, 0, 0), NONE);
        due("new: undo", x.undo(), false);
        x.anew();
        due("new: fewest", x.fewest(0), NONE);
        due("new: witness", x.witness(0, 1), NONE);
        due("new: judge", x.judge(0), NONE);
        due("new: place", x.place(0, 0), false);
        due("new: cut(0)", x.cut(0), NONE);
        due("new: cut(1)", x.cut(1), NONE);
        due("new: width", x.width(), NONE);
        noPlan(x, "new");
    }

    private static void promise2() {
        CaveParty x = party(12, 0, 11);
        x.mouth(5);
        x.place(0, 7);
        x.order(0, 3, 0);
        for (int n : new int[] {-1, 13, FAR, DEEP}) {
            due("caves(" + n + ")", x.caves(n), false);
        }
        counts(x, "refused caves change nothing", 1, 1, 1, 11, 1, 0, 12, 1, 5);
        rowIs(x, "refused caves", 7, 1, 2, 3, 4, 5, 6, 0);
        due("caves(12) again", x.caves(12), true);
        counts(x, "caves again", 0, 0, 0, 12, 0, 0, 12, 0, 0, 12, 0);
        rowIs(x, "caves again", 0, 1, 2, 3, 4, 5, 6, 7, 8, 9, 10, 11);
        due("undo is gone", x.undo(), false);
        due("look(12, 0)", x.look(12, 0), NONE);
        due("caves(0)", x.caves(0), true);
        counts(x, "caves(0)", 0, 0, 0, 0, 0, 1, 0, 0, 0, 0, 0);
        due("caves(1)", x.caves(1), true);
        counts(x, "caves(1)", 0, 0, 0, 1, 0, 0, 1, 0, 0, 1, 1);
        due("one cave", x.fewest(0), 1);
        due("caves(1) again", x.caves(1), true);
        noPlan(x, "behind caves");
    }

    private static void promise3() {
        CaveParty x = party(3);
        int[][] bad = {{0, 0}, {0, 3}, {3, 0}, {-1, 0}, {0, -1}, {FAR, 0}, {0, DEEP}};
        x.order(0, 0, 0);
        for (int[] b : bad) {
            due("passage(" + b[0] + ", " + b[1] + ")", x.passage(b[0], b[1]), NONE);
        }
        due("refused: the search stays", x.count(0), 1);
        x.place(0, 2);
        x.mouth(1);
        x.fewest(0);
        for (int i = 0; i < 18; i++) {
            due("passage number", x.passage(2, 1), i);
        }
        counts(x, "eighteen", 0, 0, 0, 3, 18, 0, 3, 18, 1, 2, 0);
        rowIs(x, "the layout stays", 2, 1, 0);
        noPlan(x, "behind a passage");
        x.order(0, 1, 0);
        due("the nineteenth", x.passage(0, 1), NONE);
        due("the nineteenth: the search stays", x.count(0), 1);
        x.drop(7);
        x.drop(3);
        due("lowest free", x.passage(1, 0), 3);
        due("next free", x.passage(0, 2), 7);
        due("lesser", x.look(3, 4), 0);
        due("greater", x.look(3, 5), 1);
        due("all are there", x.passage(0, 2), NONE);
    }

    private static void promise4() {
        CaveParty x = party(3, 0, 1, 0, 1, 1, 2);
        x.order(0, 0, 0);
        for (int p : new int[] {-1, 3, 17, 18, FAR, DEEP}) {
            due("drop(" + p + ")", x.drop(p), false);
        }
        due("refused: the search stays", x.count(0), 1);
        x.anew();
        x.fewest(0);
        x.order(0, 0, 0);
        due("drop(0)", x.drop(0), true);
        counts(x, "behind drop", 0, 0, 0, 3, 2, 0, 3, 2, 0, 1, 1);
        noPlan(x, "behind drop");
        due("drop(0) again", x.drop(0), false);
        due("its twin still leads there", x.order(0, 0, 0), 1);
        due("slide along the twin", x.order(2, 0, 1), 1);
        due("drop(2)", x.drop(2), true);
        due("parts", x.count(9), 2);
    }

    private static void promise5() {
        CaveParty x = party(3, 0, 1, 1, 2);
        x.order(0, 0, 0);
        x.fewest(0);
        for (int c : new int[] {-1, 3, 12, FAR, DEEP}) {
            due("mouth(" + c + ")", x.mouth(c), false);
        }
        due("the mouth is as it was", x.count(8), 0);
        due("mouth(2)", x.mouth(2), true);
        due("the mouth", x.count(8), 2);
        due("the search stays", x.count(0), 1);
        due("the plan stays", x.plan(NONE, 0), 3);
        due("fewest from it", x.fewest(2), 1);
        planIs(x, "from mouth 2", 0, 2, NONE, 2, 2, 1, 2, 1, 0);
        x.drop(0);
        due("a drop leaves it", x.count(8), 2);
    }

    private static void promise6() {
        CaveParty x = party(4, 0, 1, 1, 2, 2, 0);
        int[][] bad = {{-1, 0, 0}, {4, 0, 0}, {FAR, 0, 0}, {0, -1, 0}, {0, 4, 0}, {1, 4, 0}, {2, 0, 1},
            {2, 0, 3}, {2, 0, -1}, {2, 0, 18}, {3, 1, 2}, {3, 0, FAR}, {2, DEEP, 0}, {2, 3, 0}};
        for (int[] b : bad) {
            due("order(" + b[0] + ", " + b[1] + ", " + b[2] + ")", x.order(b[0], b[1], b[2]), NONE);
        }
        due("nobody to lift", x.order(1, 0, 0), 0);
        due("nobody to slide", x.order(2, 0, 0), 0);
        due("nobody to guard", x.order(3, 0, 0), 0);
        due("nothing was done", x.count(0), 0);
        due("a put asks for no passage", x.order(0, 0, DEEP), 1);
        due("slide that loses", x.order(2, 0, 0), 1);
        due("went there", x.look(1, 0), 1);
        counts(x, "lost again", 2, 1, 1, 3, 3, 0);
        due("a second", x.order(0, 1, 0), 1);
        due("guard with one left behind", x.order(3, 1, 1), 1);
        due("between two searchers", x.look(1, 6), 0);
        due("guard that would lose", x.order(3, 2, 1), 0);
        due("it stays", x.look(2, 0), 1);
        due("it wasn't done", x.count(0), 4);
        due("a lift asks for no passage", x.order(1, 1, FAR), 1);
        due("the lifted one's cave is lost", x.look(1, 1), 1);
        nineBelow();
        twoHundredOrders();
    }

    private static void nineBelow() {
        CaveParty x = party(2, 0, 1);
        for (int i = 0; i < 9; i++) {
            due("put", x.order(0, i % 2, 0), 1);
        }
        due("a tenth", x.order(0, 0, 0), 0);
        due("nine are below", x.count(1), 9);
        due("nine may slide", x.order(2, 0, 0), 1);
        due("one up", x.order(1, 1, 0), 1);
        due("one down", x.order(0, 0, 0), 1);
        due("party", x.count(2), 9);
    }

    private static void twoHundredOrders() {
        CaveParty x = party(2, 0, 1);
        x.order(0, 0, 0);
        for (int i = 1; i < 200; i++) {
            due("slide", x.order(2, (i + 1) % 2, 0), 1);
        }
        due("two hundred", x.count(0), 200);
        due("the next slide", x.order(2, 1, 0), NONE);
        due("one that can't be done", x.order(1, 0, 0), NONE);
        due("undo", x.undo(), true);
        due("room for one", x.order(3, 0, 0), 1);
        due("the next", x.order(0, 0, 0), NONE);
        x.anew();
        due("anew", x.order(0, 0, 0), 1);
    }

    private static void promise7() {
        CaveParty x = party(3, 0, 1, 1, 2);
        due("nothing to undo", x.undo(), false);
        x.order(0, 0, 0);
        x.order(0, 0, 0);
        x.order(2, 0, 0);
        x.order(1, 0, 0);
        x.order(2, 1, 1);
        counts(x, "all", 5, 1, 2, 0, 0, 1);
        due("undo the slide", x.undo(), true);
        counts(x, "slide undone", 4, 1, 2, 1, 1, 0);
        due("undo the lift", x.undo(), true);
        counts(x, "lift undone", 3, 2, 2, 1, 1, 0);
        due("who is in 0", x.look(0, 0), 1);
        due("undo the first slide", x.undo(), true);
        counts(x, "first slide undone", 2, 2, 2, 2, 2, 0);
        due("undo a put", x.undo(), true);
        counts(x, "the party too", 1, 1, 1, 2, 2, 0);
        due("undo the first put", x.undo(), true);
        counts(x, "the beginning", 0, 0, 0, 3, 2, 0);
        due("no more", x.undo(), false);
        x.order(0, 0, 0);
        due("refused orders leave nothing to undo", x.order(0, 9, 0), NONE);
        due("nor do those that can't be done", x.order(1, 1, 0), 0);
        due("undo takes the put", x.undo(), true);
        due("and that is all", x.undo(), false);
    }

    private static void promise8() {
        CaveParty x = party(3, 0, 1, 1, 2);
        x.mouth(2);
        x.place(0, 1);
        x.fewest(0);
        x.order(0, 0, 0);
        x.order(2, 0, 0);
        x.anew();
        counts(x, "anew", 0, 0, 0, 3, 2, 0, 3, 2, 2, 1, 1);
        due("anew: nothing to undo", x.undo(), false);
        due("anew: nobody there", x.look(1, 0), 0);
        rowIs(x, "anew: the layout stays", 1, 0, 2);
        due("anew: the plan stays", x.plan(NONE, 0), 3);
    }

    private static void promise9() {
        CaveParty x = party(6, 0, 1, 1, 2, 2, 0, 3, 4);
        counts(x, "map", 0, 0, 0, 6, 4, 0, 6, 4, 0, 3, 0, NONE);
        for (int what : new int[] {-1, 11, 12, FAR, DEEP}) {
            due("count(" + what + ")", x.count(what), NONE);
        }
        x.order(0, 5, 0);
        due("a cave alone is searched by a put", x.count(3), 5);
        x.order(1, 5, 0);
        due("and stays so", x.count(3), 5);
        x.order(0, 3, 0);
        x.order(2, 3, 3);
        counts(x, "a passage and its caves", 4, 1, 1, 3, 3, 0);
        x.order(1, 4, 0);
        counts(x, "nobody below", 5, 0, 1, 3, 3, 0);
        x.order(0, 0, 0);
        x.order(0, 1, 0);
        x.order(2, 0, 2);
        counts(x, "all searched", 8, 2, 2, 0, 0, 1);
        due("a ring is no tree", party(3, 0, 1, 1, 2, 2, 0).count(10), 0);
        due("a forest is no tree", party(3, 0, 1).count(10), 0);
        due("twins and one apart are no tree", party(3, 0, 1, 0, 1).count(10), 0);
        due("a tree", party(4, 0, 1, 3, 1, 1, 2).count(10), 1);
    }

    private static void promise10() {
        CaveParty x = party(4, 1, 0, 1, 2, 1, 3, 1, 3);
        x.place(0, 3);
        x.order(0, 0, 0);
        x.order(2, 0, 0);
        due("in 1", x.look(1, 0), 1);
        due("0 is searched", x.look(0, 1), 0);
        due("2 is lost", x.look(2, 1), 1);
        due("at 1", x.look(1, 2), 4);
        due("at 3", x.look(3, 2), 2);
        due("place of 3", x.look(3, 3), 0);
        due("lesser", x.look(0, 4), 0);
        due("greater", x.look(0, 5), 1);
        due("0 is searched too", x.look(0, 6), 0);
        due("1 is lost", x.look(1, 6), 1);
        due("not lost by the last", x.look(0, 7), 0);
        x.order(2, 1, 1);
        due("lost again", x.look(0, 7), 1);
        due("was lost all the time", x.look(2, 7), 0);
        due("slid along, but lost", x.look(1, 6), 1);
        due("refused orders aren't the last", x.order(2, 0, 0), 0);
        due("still so", x.look(0, 7), 1);
        x.order(0, 0, 0);
        due("not by this one", x.look(0, 7), 0);
        x.undo();
        due("again the one before", x.look(0, 7), 1);
        x.anew();
        due("none was done", x.look(0, 7), 0);
        int[][] bad = {{-1, 0}, {4, 0}, {4, 3}, {FAR, 1}, {0, -1}, {0, 8}, {-1, 4}, {4, 4}, {18, 6}, {DEEP, 7},
            {0, FAR}, {0, DEEP}};
        for (int[] b : bad) {
            due("look(" + b[0] + ", " + b[1] + ")", x.look(b[0], b[1]), NONE);
        }
    }

    private static void promise11() {
        CaveParty x = party(3, 0, 1, 1, 2);
        due("fewest(0)", x.fewest(0), 1);
        for (int law : new int[] {-1, 3, FAR, DEEP}) {
            x.fewest(0);
            due("fewest(" + law + ")", x.fewest(law), NONE);
            noPlan(x, "no such law");
        }
        due("seven caves", party(7).fewest(0), NONE);
        due("six apart, with lifts", party(6).fewest(0), 1);
        due("six apart, without", party(6).fewest(1), 4);
        due("three apart", party(3).fewest(1), 3);
        due("two apart can't hang together", party(2).fewest(2), 4);
        due("nine passages", party(2, 0, 1, 0, 1, 0, 1, 0, 1, 0, 1, 0, 1, 0, 1, 0, 1, 0, 1).fewest(0), NONE);
        due("eight between two", party(2, 0, 1, 0, 1, 0, 1, 0, 1, 0, 1, 0, 1, 0, 1, 0, 1).fewest(0), 2);
        CaveParty y = party(6, 0, 1);
        y.fewest(0);
        due("four", y.fewest(1), 4);
        noPlan(y, "behind a 4");
        CaveParty z = party(2, 0, 1, 0, 1, 0, 1, 0, 1, 0, 1, 0, 1, 0, 1, 0, 1, 0, 1, 0, 1);
        for (int p = 0; p < 9; p++) {
            z.drop(p);
        }
        due("high numbers", z.fewest(0), 1);
        planIs(z, "high numbers", 0, 0, NONE, 2, 0, 9);
        due("the search was left alone", z.count(0), 0);
    }

    private static void promise12() {
        CaveParty x = party(3, 1, 2);
        noPlan(x, "ahead of any");
        due("with a lift", x.fewest(0), 1);
        planIs(x, "with a lift", 0, 0, NONE, 1, 0, NONE, 0, 1, NONE, 2, 1, 0);
        int[][] bad = {{-1, 1}, {-1, 2}, {-2, 0}, {4, 0}, {0, 3}, {0, -1}, {FAR, 0}, {DEEP, 0}, {0, FAR}};
        for (int[] b : bad) {
            due("plan(" + b[0] + ", " + b[1] + ")", x.plan(b[0], b[1]), NONE);
        }
        x.order(0, 0, 0);
        x.undo();
        x.witness(1, 1);
        x.width();
        x.place(0, 2);
        due("refused calls leave it", x.drop(9), false);
        due("refused calls leave it", x.passage(0, 0), NONE);
        due("it stays", x.plan(NONE, 0), 4);
        due("without", x.fewest(1), 2);
        planIs(x, "without", 0, 0, NONE, 0, 1, NONE, 2, 1, 0);
        CaveParty ring = party(3, 0, 1, 1, 2, 2, 0);
        due("ring", ring.fewest(0), 2);
        planIs(ring, "ring", 0, 0, NONE, 0, 1, NONE, 2, 0, 2);
        CaveParty star = party(4, 0, 1, 0, 2, 0, 3);
        due("star", star.fewest(0), 2);
        planIs(star, "puts come ahead of slides", 0, 1, NONE, 0, 2, NONE, 2, 1, 0, 2, 0, 2);
    }

    private static void promise13() {
        CaveParty ring = party(3, 0, 1, 1, 2, 2, 0);
        due("one of any orders", ring.witness(0, 1), 4);
        due("one, puts ahead", ring.witness(1, 1), 7);
        due("one from the mouth", ring.witness(2, 1), 2);
        due("two", ring.witness(0, 2), -2);
        due("three", ring.witness(2, 3), -2);
        due("six apart, three searchers", party(6).witness(1, 3), 84);
        due("two apart", party(2).witness(2, 3), 4);
        for (int k : new int[] {-1, 0, 4, FAR, DEEP}) {
            due("witness(0, " + k + ")", ring.witness(0, k), NONE);
        }
        for (int law : new int[] {-1, 3, FAR, DEEP}) {
            due("witness(" + law + ", 1)", ring.witness(law, 1), NONE);
        }
        due("seven caves", party(7).witness(0, 1), NONE);
        ring.fewest(0);
        ring.witness(0, 1);
        ring.witness(9, 1);
        due("the plan stays", ring.plan(NONE, 0), 3);
    }

    private static void promise14() {
        CaveParty x = party(3, 0, 1, 1, 2);
        for (int law : new int[] {-1, 3, FAR, DEEP}) {
            due("judge(" + law + ")", x.judge(law), NONE);
        }
        judged(x, "nothing done", 0, 0, 0);
        x.order(0, 0, 0);
        x.order(2, 0, 0);
        judged(x, "half done", 0, 0, 0);
        x.order(3, 1, 1);
        judged(x, "a guard is a slide", 1, 1, 1);
        x.mouth(1);
        judged(x, "by the mouth as it is", 1, 1, 0);
        x.mouth(0);
        x.order(1, 2, 0);
        judged(x, "one order too many", 0, 0, 0);
        x.undo();
        judged(x, "which was undone", 1, 1, 1);
        x.anew();
        x.order(0, 0, 0);
        x.order(2, 0, 0);
        x.order(0, 2, 0);
        judged(x, "a put behind a slide", 1, 0, 0);
        x.anew();
        x.order(0, 0, 0);
        x.order(3, 0, 0);
        x.order(0, 2, 0);
        judged(x, "a put behind a guard", 1, 0, 0);
        x.anew();
        x.order(0, 0, 0);
        x.order(1, 0, 0);
        x.order(0, 0, 0);
        x.order(2, 0, 0);
        x.order(2, 1, 1);
        judged(x, "with a lift", 1, 0, 0);
        largeMap();
        apartFromTheMouth();
    }

    private static void largeMap() {
        CaveParty x = new CaveParty();
        x.caves(12);
        for (int c = 0; c < 11; c++) {
            x.passage(c, c + 1);
        }
        x.order(0, 0, 0);
        for (int c = 0; c < 11; c++) {
            judged(x, "on the way", 0, 0, 0);
            x.order(2, c, c);
        }
        judged(x, "twelve caves", 1, 1, 1);
        x.anew();
        for (int c = 0; c < 9; c++) {
            x.order(0, c, 0);
        }
        x.order(2, 8, 8);
        x.order(2, 9, 9);
        x.order(2, 10, 10);
        judged(x, "nine searchers", 1, 1, 0);
    }

    /** All is searched in the end, but on the way one stood where no searched passage led. */
    private static void apartFromTheMouth() {
        CaveParty x = party(3, 0, 1, 1, 2, 2, 0);
        x.order(0, 0, 0);
        x.order(0, 0, 0);
        x.order(0, 0, 0);
        x.order(2, 0, 0);
        x.order(2, 0, 2);
        judged(x, "from the mouth", 1, 1, 1);
        x.anew();
        x.order(0, 0, 0);
        x.order(2, 0, 0);
        x.order(0, 0, 0);
        x.order(2, 0, 2);
        judged(x, "the first one went off", 1, 0, 0);
    }

    private static void promise15() {
        CaveParty x = party(4, 0, 1);
        x.order(0, 0, 0);
        due("place(0, 3)", x.place(0, 3), true);
        rowIs(x, "place(0, 3)", 3, 1, 2, 0);
        due("place(2, 3)", x.place(2, 3), true);
        rowIs(x, "place(2, 3)", 2, 1, 3, 0);
        due("place(1, 1)", x.place(1, 1), true);
        rowIs(x, "place(1, 1)", 2, 1, 3, 0);
        int[][] bad = {{-1, 0}, {4, 0}, {0, -1}, {0, 4}, {FAR, 0}, {0, DEEP}};
        for (int[] b : bad) {
            due("place(" + b[0] + ", " + b[1] + ")", x.place(b[0], b[1]), false);
        }
        rowIs(x, "refused", 2, 1, 3, 0);
        due("the search stays", x.count(0), 1);
        x.passage(2, 3);
        rowIs(x, "a passage leaves it", 2, 1, 3, 0);
    }

    private static void promise16() {
        CaveParty x = party(4, 0, 1, 0, 1, 0, 2, 0, 3);
        int[] star = {1, 1, 1, 1, 0};
        for (int i = 0; i < star.length; i++) {
            due("the middle first: cut(" + i + ")", x.cut(i), star[i]);
        }
        x.place(3, 0);
        int[] last = {3, 1, 2, 3, 0};
        for (int i = 0; i < last.length; i++) {
            due("the middle last: cut(" + i + ")", x.cut(i), last[i]);
        }
        for (int i : new int[] {-1, 5, 12, FAR, DEEP}) {
            due("cut(" + i + ")", x.cut(i), NONE);
        }
        due("one cave: cut(0)", party(1).cut(0), 0);
        due("one cave: cut(1)", party(1).cut(1), 0);
        due("caves without passages: cut(0)", party(12).cut(0), 0);
        x.caves(0);
        due("no caves any more: cut(0)", x.cut(0), NONE);
        due("no caves any more: cut(1)", x.cut(1), NONE);
        x.caves(2);
        due("caves again: cut(0)", x.cut(0), 0);
    }

    private static void promise17() {
        CaveParty x = party(5, 4, 0, 0, 3, 3, 1, 1, 2);
        due("a path", x.width(), 1);
        rowIs(x, "a path", 0, 4, 3, 1, 2);
        due("its cut", x.cut(0), 1);
        x.place(0, 4);
        due("again", x.width(), 1);
        rowIs(x, "again", 0, 4, 3, 1, 2);
        due("apart", party(3).width(), 0);
        due("one cave", party(1).width(), 0);
        CaveParty four = party(12, 0, 1, 0, 2, 0, 3, 1, 2, 1, 3, 2, 3, 4, 5, 6, 7, 8, 9, 10, 11);
        four.place(0, 11);
        due("four of a kind", four.width(), 3);
        rowIs(four, "all beginnings do", 0, 1, 2, 3, 4, 5, 6, 7, 8, 9, 10, 11);
        CaveParty ring = party(12, 0, 11, 11, 1, 1, 10, 10, 2, 2, 9, 9, 3, 3, 8, 8, 4, 4, 7, 7, 5, 5, 6, 6, 0);
        due("a ring of twelve", ring.width(), 2);
        due("its greatest cut", ring.cut(0), 2);
        ring.order(0, 0, 0);
        ring.width();
        due("the search stays", ring.count(0), 1);
    }

    public static void main(String[] args) {
        promise1();
        promise2();
        promise3();
        promise4();
        promise5();
        promise6();
        promise7();
        promise8();
        promise9();
        promise10();
        promise11();
        promise12();
        promise13();
        promise14();
        promise15();
        promise16();
        promise17();
        tellAndEnd();
    }
}
