import java.util.ArrayList;
import java.util.List;
import java.util.function.Consumer;

/**
 * A test of its own for each sentence of the document that names a boundary: too small, too large,
 * empty, full, a number that wraps around, a refused call. A wrong answer is told with its sentence.
 */
public final class BoundaryTests extends Checks {
    private static final int[] K4_AND_TAIL = {0, 1, 0, 2, 0, 3, 1, 2, 1, 3, 2, 3, 3, 4, 4, 5};
    private static final int[] RING_OF_3 = {0, 1, 1, 2, 2, 0};
    private static int told = 0;

    private static void sentence(String text, Runnable test) {
        told++;
        under(text);
        test.run();
        under("");
    }

    /** Numbers that aren't from..to: the next ones, those that a shift takes for one within, and the ends of int. */
    private static int[] outside(int from, int to) {
        int[] near = {from - 1, from - 2, to + 1, to + 2, from - 32, to - 32, from + 32, to + 32, from + 64,
            from + 256, from + 65536, to - 65536, FAR, FAR - 31, DEEP, DEEP + 1, DEEP + to};
        List<Integer> found = new ArrayList<>();
        for (int i : near) {
            if (i < from || i > to) {
                found.add(i);
            }
        }
        return found.stream().mapToInt(Integer::intValue).toArray();
    }

    /** A search with a plan found, a moved mouth and a changed layout: refused calls must leave all of it. */
    private static void busy(CaveParty x) {
        x.caves(6);
        for (int i = 0; i < K4_AND_TAIL.length; i += 2) {
            x.passage(K4_AND_TAIL[i], K4_AND_TAIL[i + 1]);
        }
        x.mouth(4);
        x.place(1, 5);
        x.fewest(0);
        x.order(0, 3, 0);
        x.order(2, 3, 6);
        x.order(0, 5, 0);
        x.order(0, 0, 0);
        x.order(1, 0, 0);
        x.order(3, 5, 7);
    }

    private static void refused(String call, long got, long want, Consumer<CaveParty> again) {
        due(call, got, want);
        changesNothing(call, BoundaryTests::busy, again);
    }

    private static CaveParty busyParty() {
        CaveParty x = new CaveParty();
        busy(x);
        return x;
    }

    // Terms

    private static void cavesOfWhichTheFirstAreThere() {
        for (int n = 0; n <= 12; n++) {
            CaveParty x = party(n);
            due("count(6)", x.count(6), n);
            due("count(3)", x.count(3), n);
            for (int c = 0; c <= 12; c++) {
                boolean there = c < n;
                due(n + " caves: look(" + c + ", 0)", x.look(c, 0), there ? 0 : NONE);
                due(n + " caves: mouth(" + c + ")", x.mouth(c), there);
                due(n + " caves: place(" + c + ", " + c + ")", x.place(c, c), there);
                due(n + " caves: order(0, " + c + ", 0)", x.order(0, c, 0), !there ? NONE : c < 9 ? 1 : 0);
            }
        }
    }

    private static void severalBetweenTheSameTwo() {
        CaveParty x = party(2);
        due("the first", x.passage(0, 1), 0);
        due("the second", x.passage(0, 1), 1);
        due("the other way round", x.passage(1, 0), 2);
        due("passages at 0", x.look(0, 2), 3);
        due("passages at 1", x.look(1, 2), 3);
        due("they hang together once", x.count(9), 1);
        due("a cave is counted once in a cut", x.cut(1), 1);
    }

    private static void noneLeadsBackToItsOwn() {
        CaveParty x = party(12);
        for (int c = 0; c < 12; c++) {
            due("passage(" + c + ", " + c + ")", x.passage(c, c), NONE);
        }
        due("passages", x.count(7), 0);
    }

    private static void changesBeginTheSearchAnew() {
        CaveParty x = path(3);
        done(x, 0, 0, 0, 2, 0, 0);
        due("passage", x.passage(0, 2), 2);
        counts(x, "behind passage", 0, 0, 0, 3, 3, 0);
        due("nothing to undo", x.undo(), false);
        done(x, 0, 0, 0);
        due("drop", x.drop(2), true);
        counts(x, "behind drop", 0, 0, 0, 3, 2, 0);
        due("nothing to undo", x.undo(), false);
        done(x, 0, 0, 0);
        due("caves", x.caves(3), true);
        counts(x, "behind caves", 0, 0, 0, 3, 0, 0);
        due("nothing to undo", x.undo(), false);
    }

    private static void atTheBeginningAllIsLost() {
        CaveParty x = party(12);
        for (int p = 0; p < 18; p++) {
            x.passage(p % 12, (p + 1 + p / 12) % 12);
        }
        counts(x, "beginning", 0, 0, 0, 12, 18, 0, 12, 18);
        for (int c = 0; c < 12; c++) {
            due("nobody in " + c, x.look(c, 0), 0);
            due("lost is " + c, x.look(c, 1), 1);
        }
        for (int p = 0; p < 18; p++) {
            due("lost is passage " + p, x.look(p, 6), 1);
            due("none was made so: " + p, x.look(p, 7), 0);
        }
    }

    private static void searchersAtBothEnds() {
        CaveParty x = party(3, 0, 1, 0, 1, 1, 2);
        done(x, 0, 0, 0);
        counts(x, "at one end", 1, 1, 1, 2, 3, 0);
        done(x, 0, 1, 0);
        counts(x, "at both", 2, 2, 2, 1, 1, 0);
        due("one of two", x.look(0, 6), 0);
        due("the other", x.look(1, 6), 0);
        due("with one at one end", x.look(2, 6), 1);
    }

    private static void lostAgainAndAgain() {
        CaveParty x = path(12);
        done(x, 0, 0, 0);
        for (int c = 0; c < 10; c++) {
            done(x, 2, c, c);
        }
        counts(x, "one passage is left", 11, 1, 1, 1, 1, 0);
        done(x, 1, 10, 0);
        counts(x, "all is lost again", 12, 0, 1, 12, 11, 0);
        for (int p = 0; p < 11; p++) {
            due("made lost: " + p, x.look(p, 7), p < 10 ? 1 : 0);
        }
    }

    private static void aSearcherStopsWhatIsLost() {
        CaveParty x = path(5);
        done(x, 0, 0, 0, 2, 0, 0, 0, 1, 0, 2, 1, 1);
        counts(x, "two stand in a row", 4, 2, 2, 2, 2, 0);
        done(x, 1, 2, 0);
        counts(x, "no further than where one stands", 5, 1, 2, 3, 3, 0);
        due("0 stays searched", x.look(0, 1), 0);
        due("2 is lost", x.look(2, 1), 1);
    }

    private static void aCaveAloneStaysSearched() {
        CaveParty x = party(1);
        counts(x, "beginning", 0, 0, 0, 1, 0, 0);
        done(x, 0, 0, 0);
        counts(x, "one stands there", 1, 1, 1, 0, 0, 1);
        done(x, 1, 0, 0);
        counts(x, "nobody stands there", 2, 0, 1, 0, 0, 1);
    }

    private static void lostByALift() {
        for (int along = 0; along < 18; along++) {
            CaveParty x = bundle(18);
            for (int p = 0; p < 18; p++) {
                if (p != along) {
                    x.drop(p);
                }
            }
            done(x, 0, 0, 0);
            counts(x, "one stands there", 1, 1, 1, 1, 1, 0);
            done(x, 1, 0, 0);
            counts(x, "lost by passage " + along, 2, 0, 1, 2, 1, 0);
        }
    }

    private static void lostPassageSlidAlong() {
        CaveParty x = bundle(2);
        done(x, 0, 0, 0, 2, 0, 1);
        due("its cave is lost by the other one", x.look(0, 1), 1);
        due("so it is lost too", x.look(1, 6), 1);
        due("as it was before", x.look(1, 7), 0);
    }

    private static void refusedCallsChangeNothing() {
        CaveParty x = busyParty();
        for (int c : outside(0, 5)) {
            refused("mouth(" + c + ")", x.mouth(c) ? 1 : 0, 0, y -> y.mouth(c));
            refused("passage(" + c + ", 1)", x.passage(c, 1), NONE, y -> y.passage(c, 1));
            refused("passage(1, " + c + ")", x.passage(1, c), NONE, y -> y.passage(1, c));
            refused("place(" + c + ", 0)", x.place(c, 0) ? 1 : 0, 0, y -> y.place(c, 0));
            refused("place(0, " + c + ")", x.place(0, c) ? 1 : 0, 0, y -> y.place(0, c));
            for (int what = 0; what <= 3; what++) {
                int o = what;
                refused("order(" + o + ", " + c + ", 0)", x.order(o, c, 0), NONE, y -> y.order(o, c, 0));
            }
        }
        for (int p : outside(0, 7)) {
            refused("drop(" + p + ")", x.drop(p) ? 1 : 0, 0, y -> y.drop(p));
            refused("order(2, 4, " + p + ")", x.order(2, 4, p), NONE, y -> y.order(2, 4, p));
            refused("order(3, 4, " + p + ")", x.order(3, 4, p), NONE, y -> y.order(3, 4, p));
        }
        for (int n : outside(0, 12)) {
            refused("caves(" + n + ")", x.caves(n) ? 1 : 0, 0, y -> y.caves(n));
        }
        for (int law : outside(0, 2)) {
            refused("witness(" + law + ", 1)", x.witness(law, 1), NONE, y -> y.witness(law, 1));
            refused("judge(" + law + ")", x.judge(law), NONE, y -> y.judge(law));
        }
        for (int k : outside(1, 3)) {
            refused("witness(0, " + k + ")", x.witness(0, k), NONE, y -> y.witness(0, k));
        }
        alike("behind all of them", x, busyParty());
    }

    private static void askingChangesNothing() {
        changesNothing("all questions", BoundaryTests::busy, Checks::answers);
        for (int law = 0; law <= 2; law++) {
            for (int k = 1; k <= 3; k++) {
                int a = law;
                int b = k;
                changesNothing("witness(" + a + ", " + b + ")", BoundaryTests::busy, y -> y.witness(a, b));
            }
        }
    }

    private static void answersUpToTheLastCall() {
        CaveParty x = party(6, K4_AND_TAIL);
        for (int call = 10; call <= 508; call++) {
            due("call " + call + ": fewest", x.fewest(call % 2), 3);
        }
        due("call 509", x.plan(NONE, 0) > 0, true);
        due("call 510", x.width(), 3);
        due("call 511", x.witness(0, 3), -2);
        due("call 512", x.count(7), 8);
    }

    // Promise 1: a new object

    private static void aNewObjectHasNoCaves() {
        CaveParty x = new CaveParty();
        counts(x, "new", 0, 0, 0, 0, 0, 1, 0, 0, 0, 0, 0);
        due("undo()", x.undo(), false);
        x.anew();
        alike("as behind caves(0)", x, party(0));
        for (int i : new int[] {DEEP, -1, 0, 1, 11, 12, 17, 18, FAR}) {
            due("passage(" + i + ", 0)", x.passage(i, 0), NONE);
            due("passage(0, " + i + ")", x.passage(0, i), NONE);
            due("drop(" + i + ")", x.drop(i), false);
            due("mouth(" + i + ")", x.mouth(i), false);
            due("order(" + i + ", 0, 0)", x.order(i, 0, 0), NONE);
            due("order(2, 0, " + i + ")", x.order(2, 0, i), NONE);
            due("fewest(" + i + ")", x.fewest(i), NONE);
            due("witness(" + i + ", 1)", x.witness(i, 1), NONE);
            due("judge(" + i + ")", x.judge(i), NONE);
            due("place(" + i + ", 0)", x.place(i, 0), false);
            due("place(0, " + i + ")", x.place(0, i), false);
            due("cut(" + i + ")", x.cut(i), NONE);
        }
        due("width()", x.width(), NONE);
        alike("still as behind caves(0)", x, party(0));
    }

    // Promise 2: caves

    private static void cavesAnew() {
        for (int n = 0; n <= 12; n++) {
            CaveParty x = busyParty();
            due("caves(" + n + ")", x.caves(n), true);
            alike("caves(" + n + ") behind another map", x, party(n));
        }
    }

    private static void cavesTakesThePassagesAway() {
        CaveParty x = bundle(18);
        due("caves(2)", x.caves(2), true);
        due("passages", x.count(7), 0);
        due("passage 0 is gone", x.look(0, 4), NONE);
        due("passage 17 is gone", x.look(17, 4), NONE);
        due("drop(17)", x.drop(17), false);
        due("the next is 0 again", x.passage(0, 1), 0);
        due("at 0", x.look(0, 2), 1);
    }

    private static void cavesLaysThemOut() {
        CaveParty x = party(12);
        for (int i = 0; i < 6; i++) {
            x.place(i, 11 - i);
        }
        rowIs(x, "turned round", 11, 10, 9, 8, 7, 6, 5, 4, 3, 2, 1, 0);
        x.caves(3);
        rowIs(x, "three", 0, 1, 2);
        x.caves(12);
        rowIs(x, "twelve", 0, 1, 2, 3, 4, 5, 6, 7, 8, 9, 10, 11);
    }

    private static void cavesMakesTheMouth0() {
        CaveParty x = party(12);
        due("mouth(11)", x.mouth(11), true);
        due("count(8)", x.count(8), 11);
        x.caves(12);
        due("twelve", x.count(8), 0);
        x.mouth(5);
        x.caves(1);
        due("one", x.count(8), 0);
        x.caves(0);
        due("none", x.count(8), 0);
    }

    private static void noSuchNumberOfCaves() {
        for (int n : outside(0, 12)) {
            due("new: caves(" + n + ")", new CaveParty().caves(n), false);
            refused("caves(" + n + ")", busyParty().caves(n) ? 1 : 0, 0, y -> y.caves(n));
        }
    }

    // Promise 3: passage

    private static void theLowestFreeNumber() {
        CaveParty x = bundle(18);
        for (int p : new int[] {17, 0, 9, 4}) {
            due("drop(" + p + ")", x.drop(p), true);
        }
        for (int p : new int[] {0, 4, 9, 17}) {
            due("the lowest free one", x.passage(0, 1), p);
        }
        due("none is free", x.passage(0, 1), NONE);
    }

    private static void noSuchTwo() {
        for (int n = 0; n <= 12; n++) {
            CaveParty x = party(n);
            due(n + " caves: passage(0, 0)", x.passage(0, 0), NONE);
            for (int c : outside(0, n - 1)) {
                due(n + " caves: passage(0, " + c + ")", x.passage(0, c), NONE);
                due(n + " caves: passage(" + c + ", 0)", x.passage(c, 0), NONE);
                due(n + " caves: passage(" + c + ", " + c + ")", x.passage(c, c), NONE);
            }
            due(n + " caves: passages", x.count(7), 0);
            due(n + " caves: the first and the last", x.passage(n - 1, 0), n < 2 ? NONE : 0);
        }
    }

    private static void eighteenAreThere() {
        Consumer<CaveParty> full = x -> {
            x.caves(12);
            for (int p = 0; p < 18; p++) {
                x.passage(p % 12, (p + 1) % 12);
            }
            x.order(0, 0, 0);
            x.order(2, 0, 0);
        };
        CaveParty x = new CaveParty();
        full.accept(x);
        due("eighteen", x.count(7), 18);
        due("the last is 17", x.look(17, 4), 5);
        due("the nineteenth", x.passage(0, 11), NONE);
        due("still eighteen", x.count(7), 18);
        changesNothing("the nineteenth", full, y -> y.passage(0, 11));
        due("one less", x.drop(6), true);
        due("so there is room", x.passage(0, 11), 6);
        due("and no more", x.passage(0, 11), NONE);
    }

    private static void lesserAndGreater() {
        CaveParty x = party(12, 11, 0, 0, 11, 3, 2);
        for (int p = 0; p < 2; p++) {
            due("lesser", x.look(p, 4), 0);
            due("greater", x.look(p, 5), 11);
        }
        due("lesser of 3 and 2", x.look(2, 4), 2);
        due("greater of 3 and 2", x.look(2, 5), 3);
    }

    // Promise 4: drop

    private static void dropTheFirstAndTheLast() {
        CaveParty x = bundle(18);
        due("drop(17)", x.drop(17), true);
        due("17 is gone", x.look(17, 4), NONE);
        due("drop(0)", x.drop(0), true);
        due("0 is gone", x.look(0, 4), NONE);
        counts(x, "sixteen are left", 0, 0, 0, 2, 16, 0, 2, 16, 0, 1, 0);
        for (int p = 1; p < 17; p++) {
            due("they hang together", x.count(9), 1);
            due("drop(" + p + ")", x.drop(p), true);
        }
        due("with none they don't", x.count(9), 2);
        due("no passage at 0", x.look(0, 2), 0);
    }

    private static void noPassageToDrop() {
        CaveParty none = party(12);
        CaveParty one = bundle(1);
        due("drop(0)", one.drop(0), true);
        due("drop(0) again", one.drop(0), false);
        for (int p = 0; p < 18; p++) {
            due("without passages: drop(" + p + ")", none.drop(p), false);
        }
        for (int p : outside(0, 17)) {
            due("with all of them: drop(" + p + ")", bundle(18).drop(p), false);
        }
        for (int p : outside(0, 7)) {
            refused("drop(" + p + ")", busyParty().drop(p) ? 1 : 0, 0, y -> y.drop(p));
        }
    }

    // Promise 5: mouth

    private static void everyCaveMayBeTheMouth() {
        CaveParty x = party(12);
        for (int c = 11; c >= 0; c--) {
            due("mouth(" + c + ")", x.mouth(c), true);
            due("count(8)", x.count(8), c);
            due("mouth(" + c + ") again", x.mouth(c), true);
        }
    }

    private static void theSearchStays() {
        CaveParty x = busyParty();
        CaveParty twin = busyParty();
        due("mouth(0)", x.mouth(0), true);
        due("mouth(4) again", x.mouth(4), true);
        alike("there and back", x, twin);
    }

    private static void noSuchMouth() {
        for (int n = 0; n <= 12; n++) {
            CaveParty x = party(n);
            x.mouth(n - 1);
            for (int c : outside(0, n - 1)) {
                due(n + " caves: mouth(" + c + ")", x.mouth(c), false);
            }
            due(n + " caves: the mouth", x.count(8), Math.max(0, n - 1));
        }
    }

    // Promise 6: order

    private static void noSuchOrder() {
        for (int what : outside(0, 3)) {
            refused("order(" + what + ", 4, 6)", busyParty().order(what, 4, 6), NONE, y -> y.order(what, 4, 6));
        }
    }

    private static void noSuchCaveToOrder() {
        for (int c : outside(0, 5)) {
            for (int what = 0; what <= 3; what++) {
                int o = what;
                refused("order(" + o + ", " + c + ", 6)", busyParty().order(o, c, 6), NONE, y -> y.order(o, c, 6));
            }
        }
    }

    private static void noSuchPassageAtIt() {
        CaveParty x = party(4, 0, 1, 1, 2, 2, 3);
        x.drop(1);
        done(x, 0, 0, 0, 0, 2, 0, 0, 3, 0);
        for (int what = 2; what <= 3; what++) {
            due("one elsewhere", x.order(what, 0, 2), NONE);
            due("one elsewhere", x.order(what, 3, 0), NONE);
            due("one that is gone", x.order(what, 2, 1), NONE);
            due("one that never was", x.order(what, 0, 3), NONE);
            due("the greatest number", x.order(what, 0, 17), NONE);
            for (int p : outside(0, 17)) {
                due("along " + p, x.order(what, 0, p), NONE);
            }
        }
        counts(x, "nobody moved", 3, 3, 3, 1, 1, 0);
    }

    private static void noPassageOutdoesNobodyThere() {
        CaveParty x = path(3);
        due("nobody and no passage", x.order(2, 0, 1), NONE);
        due("nobody and no passage", x.order(3, 0, -1), NONE);
        due("nobody but a passage", x.order(2, 0, 0), 0);
        due("nobody but a passage", x.order(3, 0, 0), 0);
    }

    private static void putAndLiftAskForNoPassage() {
        CaveParty x = party(1);
        for (int p : outside(0, 17)) {
            due("put with " + p, x.order(0, 0, p), 1);
            due("lift with " + p, x.order(1, 0, p), 1);
        }
    }

    private static void nobodyThere() {
        Consumer<CaveParty> past = x -> {
            x.caves(3);
            x.passage(0, 1);
            x.passage(1, 2);
            x.order(0, 0, 0);
            x.order(2, 0, 0);
        };
        CaveParty x = new CaveParty();
        past.accept(x);
        for (int what = 1; what <= 3; what++) {
            int o = what;
            due("order(" + o + ", 0, 0)", x.order(o, 0, 0), 0);
            due("order(" + o + ", 2, 1)", x.order(o, 2, 1), 0);
            changesNothing("order(" + o + ", 0, 0)", past, y -> y.order(o, 0, 0));
            changesNothing("order(" + o + ", 2, 1)", past, y -> y.order(o, 2, 1));
        }
        due("somebody is there", x.order(1, 1, 0), 1);
        due("and is there no more", x.order(1, 1, 0), 0);
    }

    private static void nineAreBelow() {
        Consumer<CaveParty> past = x -> {
            x.caves(2);
            x.passage(0, 1);
            for (int i = 0; i < 9; i++) {
                x.order(0, 0, 0);
            }
        };
        CaveParty x = party(2, 0, 1);
        for (int i = 1; i <= 9; i++) {
            due("put " + i, x.order(0, 0, 0), 1);
            due("below", x.count(1), i);
        }
        due("a tenth there", x.order(0, 0, 0), 0);
        due("a tenth elsewhere", x.order(0, 1, 0), 0);
        counts(x, "nine", 9, 9, 9, 1, 1, 0);
        changesNothing("a tenth", past, y -> y.order(0, 1, 0));
        due("nine may slide", x.order(2, 0, 0), 1);
        due("nine may guard", x.order(3, 0, 0), 1);
        due("still no tenth", x.order(0, 0, 0), 0);
        due("one is lifted", x.order(1, 1, 0), 1);
        due("so there is room", x.order(0, 0, 0), 1);
        due("and no more", x.order(0, 0, 0), 0);
        due("an undo makes room", x.undo(), true);
        due("again", x.order(0, 1, 0), 1);
        due("the party", x.count(2), 9);
    }

    private static void aGuardThatWouldLose() {
        Consumer<CaveParty> past = x -> {
            x.caves(4);
            x.passage(0, 1);
            x.passage(1, 2);
            x.passage(1, 3);
            x.order(0, 0, 0);
            x.order(3, 0, 0);
        };
        CaveParty x = new CaveParty();
        past.accept(x);
        counts(x, "a guard that loses nothing", 2, 1, 1, 2, 2, 0);
        for (int p = 0; p < 3; p++) {
            int along = p;
            due("order(3, 1, " + p + ")", x.order(3, 1, p), 0);
            changesNothing("order(3, 1, " + p + ")", past, y -> y.order(3, 1, along));
        }
        done(x, 0, 1, 0);
        due("one stays behind", x.order(3, 1, 1), 1);
        due("one lost passage, which is slid along", x.order(3, 1, 2), 1);
        due("all is searched", x.count(5), 1);
        due("then nothing can be lost", x.order(3, 3, 2), 1);
        due("and nobody there is 0 still", x.order(3, 3, 2), 0);
    }

    private static void aGuardAlongOneOfTwo() {
        CaveParty x = bundle(2);
        done(x, 0, 0, 0);
        due("the other one would be lost on", x.order(3, 0, 0), 0);
        due("a slide goes", x.order(2, 0, 0), 1);
        CaveParty y = bundle(1);
        done(y, 0, 0, 0);
        due("the only one", y.order(3, 0, 0), 1);
    }

    private static void twoHundredWereDone() {
        Consumer<CaveParty> past = x -> {
            x.caves(2);
            x.passage(0, 1);
            x.order(0, 0, 0);
            for (int i = 0; i < 199; i++) {
                x.order(2 + i % 3 / 2, i % 2, 0);
            }
        };
        CaveParty x = new CaveParty();
        past.accept(x);
        counts(x, "two hundred", 200, 1, 1, 0, 0, 1);
        for (int what = 0; what <= 3; what++) {
            int o = what;
            due("one more: order(" + o + ", 1, 0)", x.order(o, 1, 0), NONE);
            due("where nobody is: order(" + o + ", 0, 0)", x.order(o, 0, 0), NONE);
            changesNothing("one more: order(" + o + ", 1, 0)", past, y -> y.order(o, 1, 0));
        }
        due("undo", x.undo(), true);
        due("199", x.count(0), 199);
        due("one that can't be done", x.order(1, 1, 0), 0);
        due("one that can", x.order(1, 0, 0), 1);
        due("no more", x.order(0, 0, 0), NONE);
        due("undone", x.undo(), true);
        x.anew();
        due("anew", x.order(0, 0, 0), 1);
    }

    private static void onlyWhatWasDoneCounts() {
        CaveParty x = path(2);
        for (int i = 0; i < 250; i++) {
            due("nobody there", x.order(1, 0, 0), 0);
            due("no such cave", x.order(0, 2, 0), NONE);
        }
        due("nothing was done", x.count(0), 0);
        due("so there is room", x.order(0, 0, 0), 1);
    }

    // Promise 7: undo

    private static void nothingToUndo() {
        due("new", new CaveParty().undo(), false);
        CaveParty x = path(2);
        due("no order yet", x.undo(), false);
        x.order(1, 0, 0);
        x.order(0, 2, 0);
        due("none was done", x.undo(), false);
        done(x, 0, 0, 0);
        due("one was", x.undo(), true);
        due("that was all", x.undo(), false);
        counts(x, "the beginning", 0, 0, 0, 2, 1, 0, 2, 1);
    }

    private static void twoHundredUndone() {
        CaveParty x = path(2);
        done(x, 0, 0, 0);
        for (int i = 1; i < 200; i++) {
            x.order(2, (i + 1) % 2, 0);
        }
        for (int i = 200; i > 0; i--) {
            due("done", x.count(0), i);
            due("undo", x.undo(), true);
        }
        due("no more", x.undo(), false);
        alike("the beginning", x, path(2));
    }

    private static void undoOfEachOrder() {
        for (int what = 0; what <= 3; what++) {
            CaveParty x = party(3, RING_OF_3);
            CaveParty twin = party(3, RING_OF_3);
            done(x, 0, 0, 0, 0, 1, 0, what, 0, 2);
            done(twin, 0, 0, 0, 0, 1, 0);
            due("undo of order " + what, x.undo(), true);
            alike("undo of order " + what, x, twin);
        }
    }

    private static void undoLessensTheParty() {
        CaveParty x = party(2);
        done(x, 0, 0, 0, 0, 1, 0, 1, 0, 0, 0, 0, 0, 0, 0, 0);
        due("party", x.count(2), 3);
        int[] before = {2, 2, 2, 1, 0};
        for (int want : before) {
            x.undo();
            due("the party so far", x.count(2), want);
        }
    }

    // Promise 8: anew

    private static void anewTwiceAndWithNothingDone() {
        CaveParty x = new CaveParty();
        x.anew();
        alike("without caves", x, new CaveParty());
        CaveParty y = path(3);
        y.anew();
        alike("nothing done", y, path(3));
        done(y, 0, 0, 0, 2, 0, 0);
        y.anew();
        y.anew();
        alike("twice", y, path(3));
    }

    private static void anewLeavesTheRest() {
        CaveParty x = busyParty();
        CaveParty twin = busyParty();
        x.anew();
        while (twin.undo()) {
            due("an order to take back", twin.count(0) >= 0, true);
        }
        alike("mouth, layout, plan and map", x, twin);
    }

    // Promise 9: count

    private static void countNoneForOthers() {
        for (int what : outside(0, 10)) {
            due("count(" + what + ")", busyParty().count(what), NONE);
            due("new: count(" + what + ")", new CaveParty().count(what), NONE);
        }
    }

    private static void allSearchedWithoutCaves() {
        due("no cave and no passage is lost", party(0).count(5), 1);
        due("one cave is", party(1).count(5), 0);
    }

    private static void partsAndTrees() {
        counts(party(0), "no caves", 0, 0, 0, 0, 0, 1, 0, 0, 0, 0, 0);
        counts(party(1), "one cave", 0, 0, 0, 1, 0, 0, 1, 0, 0, 1, 1);
        counts(party(12), "twelve apart", 0, 0, 0, 12, 0, 0, 12, 0, 0, 12, 0);
        counts(path(12), "twelve in a row", 0, 0, 0, 12, 11, 0, 12, 11, 0, 1, 1);
        counts(party(2, 0, 1, 0, 1), "one passage too many", 0, 0, 0, 2, 2, 0, 2, 2, 0, 1, 0);
        counts(party(4, RING_OF_3), "as many as a tree, but apart", 0, 0, 0, 4, 3, 0, 4, 3, 0, 2, 0);
        counts(party(4, 0, 1, 2, 3), "one too few", 0, 0, 0, 4, 2, 0, 4, 2, 0, 2, 0);
        counts(party(4, 0, 2, 1, 3), "one between another's caves", 0, 0, 0, 4, 2, 0, 4, 2, 0, 2, 0);
    }

    private static void thePartySoFar() {
        CaveParty x = party(1);
        due("none", x.count(2), 0);
        done(x, 0, 0, 0, 0, 0, 0, 1, 0, 0, 1, 0, 0, 0, 0, 0);
        due("the most at once", x.count(2), 2);
        due("below", x.count(1), 1);
        x.anew();
        due("anew", x.count(2), 0);
    }

    // Promise 10: look

    private static void lookNoneForOthers() {
        CaveParty x = party(12);
        for (int p = 0; p < 18; p++) {
            x.passage(p % 12, (p + 1) % 12);
        }
        for (int what : outside(0, 7)) {
            for (int which : new int[] {0, 11, 12, 17}) {
                due("look(" + which + ", " + what + ")", x.look(which, what), NONE);
            }
        }
        for (int what = 0; what <= 3; what++) {
            due("the last cave: look(11, " + what + ")", x.look(11, what) != NONE, true);
            for (int c : outside(0, 11)) {
                due("look(" + c + ", " + what + ")", x.look(c, what), NONE);
            }
        }
        for (int what = 4; what <= 7; what++) {
            due("the last passage: look(17, " + what + ")", x.look(17, what) != NONE, true);
            for (int p : outside(0, 17)) {
                due("look(" + p + ", " + what + ")", x.look(p, what), NONE);
            }
        }
    }

    private static void cavesAndPassagesAreNumberedApart() {
        CaveParty x = bundle(18);
        due("passage 17, though no cave", x.look(17, 5), 1);
        due("no cave 2, though a passage", x.look(2, 2), NONE);
        CaveParty y = party(12);
        due("cave 11, though no passage", y.look(11, 3), 11);
        due("no passage 0, though a cave", y.look(0, 6), NONE);
    }

    private static void noPassageThatIsGone() {
        CaveParty x = path(4);
        x.drop(1);
        for (int what = 4; what <= 7; what++) {
            due("look(1, " + what + ")", x.look(1, what), NONE);
            due("look(0, " + what + ")", x.look(0, what) != NONE, true);
            due("look(2, " + what + ")", x.look(2, what) != NONE, true);
        }
    }

    private static void madeLostByTheLastOrder() {
        CaveParty x = path(3);
        due("none was done", x.look(0, 7), 0);
        done(x, 0, 0, 0, 2, 0, 0);
        due("searched", x.look(0, 7), 0);
        done(x, 1, 1, 0);
        due("made lost", x.look(0, 7), 1);
        due("was lost", x.look(1, 7), 0);
        due("can't be done", x.order(1, 1, 0), 0);
        due("no such order", x.order(4, 1, 0), NONE);
        due("so that isn't the last", x.look(0, 7), 1);
        done(x, 0, 2, 0);
        due("lost still, but not made so by this", x.look(0, 7), 0);
        due("lost still", x.look(0, 6), 1);
        x.undo();
        due("the lift is the last again", x.look(0, 7), 1);
        x.undo();
        due("the slide is", x.look(0, 7), 0);
        done(x, 1, 1, 0);
        x.anew();
        due("none was done", x.look(0, 7), 0);
    }

    // Promise 11: fewest

    private static void noSuchLaw() {
        for (int law : outside(0, 2)) {
            CaveParty x = path(3);
            due("fewest(0)", x.fewest(0), 1);
            due("fewest(" + law + ")", x.fewest(law), NONE);
            noPlan(x, "NONE: none is told");
            due("witness(" + law + ", 1)", x.witness(law, 1), NONE);
        }
    }

    private static void noCavesToSolve() {
        CaveParty x = path(2);
        due("fewest(0)", x.fewest(0), 1);
        x.caves(0);
        for (int law = 0; law <= 2; law++) {
            due("fewest(" + law + ")", x.fewest(law), NONE);
            due("new: fewest(" + law + ")", new CaveParty().fewest(law), NONE);
            due("witness(" + law + ", 1)", x.witness(law, 1), NONE);
        }
        noPlan(x, "no caves");
    }

    private static void sixCavesAndNoMore() {
        for (int n = 1; n <= 12; n++) {
            for (int law = 0; law <= 2; law++) {
                due(n + " caves: fewest(" + law + ")", path(n).fewest(law), n <= 6 ? 1 : NONE);
                due(n + " caves: witness(" + law + ", 1)", path(n).witness(law, 1), n <= 6 ? -2 : NONE);
            }
        }
    }

    private static void eightPassagesAndNoMore() {
        for (int m = 0; m <= 18; m++) {
            CaveParty x = bundle(m);
            due(m + " passages: fewest(0)", x.fewest(0), m > 8 ? NONE : m < 2 ? 1 : 2);
            due(m + " passages: witness(0, 2)", x.witness(0, 2), m > 8 ? NONE : -2);
            due(m + " passages: witness(1, 1)", x.witness(1, 1), m > 8 ? NONE : m == 1 ? -2 : m == 0 ? 3 : 5);
        }
    }

    private static void passagesAreCountedNotNumbered() {
        CaveParty x = bundle(18);
        for (int p = 0; p < 9; p++) {
            x.drop(p);
        }
        due("nine are left", x.fewest(0), NONE);
        x.drop(9);
        due("eight are left", x.fewest(2), 2);
        planIs(x, "the lowest of them", 0, 0, NONE, 0, 0, NONE, 2, 0, 10);
    }

    /** A plan goes along a passage of any number, also where it is the only one. */
    private static void plansAlongEachPassage() {
        for (int p = 0; p <= 17; p++) {
            CaveParty x = bundle(18);
            for (int q = 0; q <= 17; q++) {
                due("drop(" + q + ")", q != p && x.drop(q), q != p);
            }
            for (int law = 0; law <= 2; law++) {
                due("only " + p + " is left: fewest(" + law + ")", x.fewest(law), 1);
                planIs(x, "only " + p + " is left", 0, 0, NONE, 2, 0, p);
                due("only " + p + " is left: witness(" + law + ", 1)", x.witness(law, 1), -2);
            }
        }
    }

    private static void aRingOfTheLastPassages() {
        CaveParty x = party(3);
        for (int p = 0; p < 15; p++) {
            x.passage(0, 1);
        }
        for (int i = 0; i < RING_OF_3.length; i += 2) {
            due("passage", x.passage(RING_OF_3[i], RING_OF_3[i + 1]), 15 + i / 2);
        }
        for (int p = 0; p < 15; p++) {
            x.drop(p);
        }
        due("by one", x.witness(0, 1), 4);
        due("fewest(1)", x.fewest(1), 2);
        planIs(x, "two, and one of them along the last", 0, 0, NONE, 0, 1, NONE, 2, 0, 17);
    }

    private static void theFullestMap() {
        CaveParty x = party(6, K4_AND_TAIL);
        for (int law = 0; law <= 2; law++) {
            due("fewest(" + law + ")", x.fewest(law), 3);
            due("witness(" + law + ", 2) is one", x.witness(law, 2) > 0, true);
            due("witness(" + law + ", 3)", x.witness(law, 3), -2);
        }
    }

    private static void noneOfOneToThree() {
        for (int n = 1; n <= 6; n++) {
            CaveParty x = party(n);
            due(n + " apart: fewest(0)", x.fewest(0), 1);
            due(n + " apart: plan", x.plan(NONE, 0), 2 * n - 1);
            due(n + " apart: fewest(1)", x.fewest(1), Math.min(n, 4));
            due(n + " apart: plan", x.plan(NONE, 0), n <= 3 ? n : NONE);
            due(n + " apart: fewest(2)", x.fewest(2), n == 1 ? 1 : 4);
            due(n + " apart: plan", x.plan(NONE, 0), n == 1 ? 1 : NONE);
        }
        CaveParty y = party(4);
        y.fewest(0);
        due("four", y.fewest(1), 4);
        noPlan(y, "4: none is told");
    }

    private static void noneAheadOfAny() {
        CaveParty x = path(3);
        noPlan(x, "ahead of any");
        x.witness(0, 1);
        noPlan(x, "a witness is no plan");
        x.order(0, 0, 0);
        x.judge(0);
        noPlan(x, "nor is what was done");
    }

    private static void noneBehindAChange() {
        CaveParty x = path(3);
        due("fewest(0)", x.fewest(0), 1);
        x.passage(0, 2);
        noPlan(x, "behind passage");
        due("fewest(0)", x.fewest(0), 2);
        x.drop(2);
        noPlan(x, "behind drop");
        due("fewest(0)", x.fewest(0), 1);
        x.caves(3);
        noPlan(x, "behind caves");
    }

    private static void thePlanStaysOtherwise() {
        CaveParty x = path(3);
        due("fewest(0)", x.fewest(0), 1);
        x.mouth(2);
        x.order(0, 0, 0);
        x.order(2, 0, 0);
        x.undo();
        x.anew();
        x.place(0, 2);
        x.width();
        x.witness(1, 1);
        x.judge(0);
        x.caves(13);
        x.passage(1, 1);
        x.drop(2);
        x.mouth(3);
        planIs(x, "stays", 0, 0, NONE, 2, 0, 0, 2, 1, 1);
        due("fewest(2)", x.fewest(2), 1);
        planIs(x, "until the next", 0, 2, NONE, 2, 2, 1, 2, 1, 0);
    }

    private static void fewestLeavesTheSearch() {
        CaveParty x = busyParty();
        CaveParty twin = busyParty();
        x.fewest(1);
        x.fewest(2);
        x.fewest(0);
        alike("search, mouth and layout", x, twin);
    }

    private static void theLeastPartyOutdoesTheShortest() {
        CaveParty x = party(3);
        due("one is enough", x.fewest(0), 1);
        planIs(x, "though three were done sooner",
            0, 0, NONE, 1, 0, NONE, 0, 1, NONE, 1, 1, NONE, 0, 2, NONE);
    }

    private static void theLeastOfLikePlans() {
        CaveParty lift = party(5, 0, 1, 1, 2, 2, 0, 2, 3);
        due("ring with a tail, and one apart", lift.fewest(0), 2);
        planIs(lift, "a put ahead of a slide, a lift ahead of a slide",
            0, 0, NONE, 0, 1, NONE, 2, 0, 2, 1, 1, NONE, 0, 4, NONE, 2, 2, 3);
        CaveParty ring = party(3, RING_OF_3);
        due("ring", ring.fewest(0), 2);
        planIs(ring, "by the cave ahead of the passage", 0, 0, NONE, 0, 1, NONE, 2, 0, 2);
        CaveParty twins = bundle(3);
        twins.drop(0);
        due("from the mouth", twins.fewest(2), 2);
        planIs(twins, "then by the passage", 0, 0, NONE, 0, 0, NONE, 2, 0, 1);
    }

    // Promise 12: plan

    private static void planNoneForOthers() {
        CaveParty x = path(3);
        x.fewest(0);
        due("how many", x.plan(NONE, 0), 3);
        for (int what : outside(0, 0)) {
            due("plan(NONE, " + what + ")", x.plan(NONE, what), NONE);
        }
        for (int i : outside(-1, 2)) {
            for (int what = 0; what <= 2; what++) {
                due("plan(" + i + ", " + what + ")", x.plan(i, what), NONE);
            }
        }
        for (int what : outside(0, 2)) {
            for (int i = 0; i <= 2; i++) {
                due("plan(" + i + ", " + what + ")", x.plan(i, what), NONE);
            }
        }
        due("the last", x.plan(2, 1), 1);
    }

    private static void onlyASlideHasAPassage() {
        CaveParty x = party(3, 1, 2);
        due("fewest(0)", x.fewest(0), 1);
        planIs(x, "put, lift, put, slide", 0, 0, NONE, 1, 0, NONE, 0, 1, NONE, 2, 1, 0);
    }

    // Promise 13: witness

    private static void noSuchK() {
        CaveParty x = party(3, RING_OF_3);
        for (int law = 0; law <= 2; law++) {
            for (int k : outside(1, 3)) {
                due("witness(" + law + ", " + k + ")", x.witness(law, k), NONE);
            }
        }
    }

    private static void kOrFewerDo() {
        for (int k = 1; k <= 3; k++) {
            due("a path: witness(0, " + k + ")", path(6).witness(0, k), -2);
            due("a ring: witness(0, " + k + ")", party(3, RING_OF_3).witness(0, k), k == 1 ? 4 : -2);
            due("four: witness(0, " + k + ")", party(4, 0, 1, 0, 2, 0, 3, 1, 2, 1, 3, 2, 3).witness(0, k),
                k == 1 ? 5 : k == 2 ? 15 : -2);
        }
    }

    private static void theBeginningToo() {
        for (int k = 1; k <= 3; k++) {
            due("none to three in the mouth", party(2).witness(2, k), k + 1);
        }
    }

    private static void ofLaw1TwoStands() {
        CaveParty x = party(3, RING_OF_3);
        due("any orders", x.witness(0, 1), 4);
        due("ahead of a slide and behind one", x.witness(1, 1), 7);
        due("no slides: six caves, up to three", party(6).witness(1, 3), 84);
    }

    private static void noPutBehindASlide() {
        CaveParty x = party(4, 2, 0);
        due("15 ahead of a slide and 9 behind one", x.witness(1, 2), 24);
        due("with a third", x.fewest(1), 3);
    }

    private static void aLiftMayLose() {
        CaveParty star = party(4, 0, 1, 0, 2, 0, 3);
        due("none, one in each, and one come from each end", star.witness(0, 1), 8);
    }

    private static void lawsDoNotMix() {
        CaveParty x = party(3, RING_OF_3);
        for (int round = 0; round < 3; round++) {
            due("witness(1, 1)", x.witness(1, 1), 7);
            due("witness(0, 1)", x.witness(0, 1), 4);
            due("witness(2, 1)", x.witness(2, 1), 2);
            due("fewest(" + round + ")", x.fewest(round), 2);
        }
    }

    // Promise 14: judge

    private static void noSuchLawToJudge() {
        CaveParty x = path(2);
        done(x, 0, 0, 0, 2, 0, 0);
        for (int law : outside(0, 2)) {
            due("judge(" + law + ")", x.judge(law), NONE);
        }
        judged(x, "the three", 1, 1, 1);
    }

    private static void noCavesToJudge() {
        judged(new CaveParty(), "new", NONE, NONE, NONE);
        CaveParty x = path(2);
        judged(x, "with caves", 0, 0, 0);
        x.caves(0);
        judged(x, "without", NONE, NONE, NONE);
    }

    private static void judgedLargeAndLong() {
        CaveParty x = path(12);
        done(x, 0, 0, 0);
        for (int i = 0; i < 188; i++) {
            done(x, 2, i % 2, 0);
        }
        for (int c = 0; c < 11; c++) {
            judged(x, "not yet", 0, 0, 0);
            done(x, 2, c, c);
        }
        due("two hundred", x.count(0), 200);
        judged(x, "by the two hundredth", 1, 1, 1);
        CaveParty y = party(9);
        for (int c = 0; c < 9; c++) {
            done(y, 0, c, 0);
        }
        judged(y, "nine apart", 1, 1, 0);
        CaveParty full = bundle(18);
        done(full, 0, 0, 0, 0, 0, 0, 2, 0, 17);
        judged(full, "eighteen passages", 1, 1, 1);
    }

    private static void searchedByTheLastNotAhead() {
        CaveParty x = path(2);
        judged(x, "nothing done", 0, 0, 0);
        done(x, 0, 0, 0);
        judged(x, "not yet", 0, 0, 0);
        done(x, 2, 0, 0);
        judged(x, "by the last", 1, 1, 1);
        done(x, 2, 1, 0);
        due("all is searched", x.count(5), 1);
        judged(x, "ahead of it", 0, 0, 0);
        x.undo();
        judged(x, "taken back", 1, 1, 1);
        due("can't be done", x.order(1, 0, 0), 0);
        judged(x, "what can't be done is none", 1, 1, 1);
    }

    private static void aGuardIsASlide() {
        CaveParty x = party(3, 0, 1);
        done(x, 0, 0, 0, 3, 0, 0, 0, 2, 0);
        judged(x, "a put behind a guard", 1, 0, 0);
        x.anew();
        done(x, 0, 0, 0, 0, 2, 0, 3, 0, 0);
        judged(x, "a guard behind the puts", 1, 1, 0);
        CaveParty y = path(2);
        done(y, 0, 0, 0, 3, 0, 0);
        judged(y, "a guard from the mouth", 1, 1, 1);
    }

    private static void noLift() {
        CaveParty x = path(2);
        done(x, 0, 0, 0, 1, 0, 0, 0, 0, 0, 2, 0, 0);
        judged(x, "a lift on the way", 1, 0, 0);
        CaveParty y = party(2, 0, 1);
        done(y, 0, 0, 0, 0, 0, 0, 1, 0, 0, 2, 0, 0);
        judged(y, "one of two", 1, 0, 0);
    }

    private static void eachPutIntoTheMouth() {
        CaveParty x = path(2);
        done(x, 0, 0, 0, 0, 1, 0);
        judged(x, "one elsewhere", 1, 1, 0);
        x.mouth(1);
        judged(x, "the other elsewhere", 1, 1, 0);
        x.anew();
        done(x, 0, 1, 0, 2, 1, 0);
        judged(x, "the mouth moved ahead", 1, 1, 1);
        x.mouth(0);
        judged(x, "by the mouth as it is", 1, 1, 0);
    }

    private static void putsBehindASlideFromTheMouth() {
        CaveParty x = party(3, 0, 1, 0, 2);
        done(x, 0, 0, 0, 0, 0, 0, 2, 0, 0, 0, 0, 0, 2, 0, 1);
        judged(x, "law 2 has nothing against them", 1, 0, 1);
    }

    private static void hangTogetherBehindEachOrder() {
        CaveParty x = party(3, RING_OF_3);
        done(x, 0, 0, 0, 2, 0, 0, 0, 0, 0, 2, 0, 2);
        judged(x, "one stood apart for a while", 1, 0, 0);
        CaveParty y = party(4, 0, 1, 1, 2, 2, 0, 2, 3);
        y.mouth(3);
        done(y, 0, 3, 0, 0, 3, 0, 2, 3, 3, 2, 3, 3, 2, 2, 1, 2, 1, 0);
        judged(y, "the mouth is left, its passage searched", 1, 1, 1);
    }

    // Promise 15: place

    private static void placesOfEveryCave() {
        CaveParty x = party(12);
        due("place(0, 11)", x.place(0, 11), true);
        rowIs(x, "first and last", 11, 1, 2, 3, 4, 5, 6, 7, 8, 9, 10, 0);
        due("place(11, 11)", x.place(11, 11), true);
        rowIs(x, "and back", 0, 1, 2, 3, 4, 5, 6, 7, 8, 9, 10, 11);
        due("place(5, 5)", x.place(5, 5), true);
        rowIs(x, "with itself", 0, 1, 2, 3, 4, 5, 6, 7, 8, 9, 10, 11);
        due("one cave: place(0, 0)", party(1).place(0, 0), true);
    }

    private static void noSuchPlace() {
        for (int n = 0; n <= 12; n++) {
            CaveParty x = party(n);
            for (int i : outside(0, n - 1)) {
                due(n + " caves: place(" + i + ", 0)", x.place(i, 0), false);
                due(n + " caves: place(0, " + i + ")", x.place(0, i), false);
                due(n + " caves: place(" + i + ", " + i + ")", x.place(i, i), false);
            }
            for (int c = 0; c < n; c++) {
                due(n + " caves: look(" + c + ", 3)", x.look(c, 3), c);
            }
        }
    }

    // Promise 16: cut

    private static void cutNoneForOthers() {
        for (int n = 1; n <= 12; n++) {
            CaveParty x = path(n);
            for (int i = 1; i <= n; i++) {
                due(n + " caves: cut(" + i + ")", x.cut(i), i < n ? 1 : 0);
            }
            due(n + " caves: cut(0)", x.cut(0), n > 1 ? 1 : 0);
            for (int i : outside(0, n)) {
                due(n + " caves: cut(" + i + ")", x.cut(i), NONE);
            }
        }
    }

    private static void noCutWithoutCaves() {
        CaveParty x = path(3);
        due("with caves", x.cut(0), 1);
        x.caves(0);
        for (CaveParty y : new CaveParty[] {x, new CaveParty()}) {
            for (int i = -1; i <= 13; i++) {
                due("cut(" + i + ")", y.cut(i), NONE);
            }
        }
        due("without passages", party(12).cut(0), 0);
    }

    private static void cutsOfTheLayout() {
        CaveParty x = path(4);
        x.place(0, 3);
        x.place(1, 2);
        rowIs(x, "turned round", 3, 2, 1, 0);
        int[] turned = {1, 1, 1, 1, 0};
        x.place(1, 1);
        rowIs(x, "one and one", 3, 1, 2, 0);
        int[] mixed = {2, 1, 2, 1, 0};
        for (int i = 0; i <= 4; i++) {
            due("one and one: cut(" + i + ")", x.cut(i), mixed[i]);
        }
        x.place(1, 2);
        for (int i = 0; i <= 4; i++) {
            due("turned round: cut(" + i + ")", x.cut(i), turned[i]);
        }
    }

    private static void theGreatestCutStandsAnywhere() {
        int[][] stars = {{1, 0, 2, 0, 3, 0}, {0, 3, 1, 3, 2, 3}, {0, 1, 2, 3, 1, 3}};
        int[][] cuts = {{1, 1, 1, 1, 0}, {3, 1, 2, 3, 0}, {2, 1, 1, 2, 0}};
        for (int s = 0; s < stars.length; s++) {
            for (int i = 0; i <= 4; i++) {
                due("map " + s + ": cut(" + i + ")", party(4, stars[s]).cut(i), cuts[s][i]);
            }
        }
        CaveParty last = party(12);
        for (int c = 0; c < 11; c++) {
            last.passage(c, 11);
        }
        for (int i = 1; i <= 12; i++) {
            due("eleven to the last: cut(" + i + ")", last.cut(i), i % 12);
        }
        due("eleven to the last: cut(0)", last.cut(0), 11);
    }

    // Promise 17: width

    private static void noWidthWithoutCaves() {
        due("new", new CaveParty().width(), NONE);
        CaveParty x = path(3);
        due("with caves", x.width(), 1);
        x.caves(0);
        due("without", x.width(), NONE);
        changesNothing("width() without caves", y -> y.caves(0), CaveParty::width);
    }

    private static void theLeastAndTheMostCaves() {
        due("one cave", party(1).width(), 0);
        due("two apart", party(2).width(), 0);
        due("two", bundle(18).width(), 1);
        CaveParty apart = party(12);
        apart.place(0, 11);
        due("twelve apart", apart.width(), 0);
        rowIs(apart, "twelve apart", 0, 1, 2, 3, 4, 5, 6, 7, 8, 9, 10, 11);
        CaveParty star = party(12);
        for (int c = 0; c < 11; c++) {
            star.passage(c, 11);
        }
        due("eleven to the last", star.width(), 1);
        rowIs(star, "one of them, then the last", 0, 11, 1, 2, 3, 4, 5, 6, 7, 8, 9, 10);
        due("its greatest cut", star.cut(0), 1);
    }

    private static void theLeastSuchLayout() {
        CaveParty middle = party(5, 1, 2, 2, 0, 0, 3, 3, 4);
        due("with 0 in the middle", middle.width(), 1);
        rowIs(middle, "0 can't be the first", 1, 2, 0, 3, 4);
        CaveParty ring = party(4, 0, 2, 2, 1, 1, 3, 3, 0);
        due("a ring", ring.width(), 2);
        rowIs(ring, "every beginning does", 0, 1, 2, 3);
        CaveParty two = party(4, 0, 3, 1, 2);
        due("two apart", two.width(), 1);
        rowIs(two, "one is ended ahead of the other", 0, 3, 1, 2);
    }

    private static void widthTakesOnlyTheLayout() {
        CaveParty x = busyParty();
        CaveParty twin = busyParty();
        due("width", x.width(), 3);
        due("the second is in its place", x.look(1, 3), 1);
        due("the last is in its place", x.look(5, 3), 5);
        twin.place(1, 1);
        alike("all but the layout", x, twin);
    }

    private static void terms() {
        sentence("CAVES 0 to 11, of which the first n are there (none at first)",
            BoundaryTests::cavesOfWhichTheFirstAreThere);
        sentence("several may be between the same two", BoundaryTests::severalBetweenTheSameTwo);
        sentence("none leads back to its own", BoundaryTests::noneLeadsBackToItsOwn);
        sentence("A change of these lets all of the SEARCH begin anew", BoundaryTests::changesBeginTheSearchAnew);
        sentence("At the beginning they may be anywhere, and no searcher is below",
            BoundaryTests::atTheBeginningAllIsLost);
        sentence("a PASSAGE at both ends of which searchers stand", BoundaryTests::searchersAtBothEnds);
        sentence("then again and again", BoundaryTests::lostAgainAndAgain);
        sentence("through CAVES in which no searcher stands", BoundaryTests::aSearcherStopsWhatIsLost);
        sentence("a CAVE where none stands is SEARCHED just if it was, or one just went from it",
            BoundaryTests::aCaveAloneStaysSearched);
        sentence("a CAVE in which none stands and at which a LOST PASSAGE is, is LOST", BoundaryTests::lostByALift);
        sentence("a PASSAGE at a LOST CAVE is LOST", BoundaryTests::lostPassageSlidAlong);
        sentence("A call that is refused (NONE, false) changes nothing", BoundaryTests::refusedCallsChangeNothing);
        sentence("what only asks changes nothing", BoundaryTests::askingChangesNothing);
        sentence("An object is used for at most 512 calls", BoundaryTests::answersUpToTheLastCall);
    }

    private static void makingTheMap() {
        sentence("1: No CAVES", BoundaryTests::aNewObjectHasNoCaves);
        sentence("2: The first n CAVES (0 to 12) are there", BoundaryTests::cavesAnew);
        sentence("2: without PASSAGES", BoundaryTests::cavesTakesThePassagesAway);
        sentence("2: the LAYOUT is 0, 1, ..", BoundaryTests::cavesLaysThemOut);
        sentence("2: THE MOUTH is 0", BoundaryTests::cavesMakesTheMouth0);
        sentence("2: false: no such n", BoundaryTests::noSuchNumberOfCaves);
        sentence("3: its number (the lowest free one)", BoundaryTests::theLowestFreeNumber);
        sentence("3: NONE: no such two", BoundaryTests::noSuchTwo);
        sentence("3: NONE: or 18 are there", BoundaryTests::eighteenAreThere);
        sentence("3: between CAVES a and b, either way round", BoundaryTests::lesserAndGreater);
        sentence("4: PASSAGE p is gone", BoundaryTests::dropTheFirstAndTheLast);
        sentence("4: false: there is none such", BoundaryTests::noPassageToDrop);
        sentence("5: THE MOUTH: true", BoundaryTests::everyCaveMayBeTheMouth);
        sentence("5: the SEARCH stays", BoundaryTests::theSearchStays);
        sentence("5: false: no such CAVE", BoundaryTests::noSuchMouth);
    }

    private static void searching() {
        sentence("6: NONE: no such ORDER", BoundaryTests::noSuchOrder);
        sentence("6: NONE: no such CAVE", BoundaryTests::noSuchCaveToOrder);
        sentence("6: NONE: no such PASSAGE at it", BoundaryTests::noSuchPassageAtIt);
        sentence("6: NONE ahead of 0", BoundaryTests::noPassageOutdoesNobodyThere);
        sentence("6: 2, 3: along PASSAGE p", BoundaryTests::putAndLiftAskForNoPassage);
        sentence("6: 0: nobody there", BoundaryTests::nobodyThere);
        sentence("6: 0: nine are below", BoundaryTests::nineAreBelow);
        sentence("6: 0: a GUARD that would lose", BoundaryTests::aGuardThatWouldLose);
        sentence("6: 0: a GUARD along one of several", BoundaryTests::aGuardAlongOneOfTwo);
        sentence("6: NONE: or 200 were done", BoundaryTests::twoHundredWereDone);
        sentence("6: were done: what can't be done isn't", BoundaryTests::onlyWhatWasDoneCounts);
        sentence("7: false: there is none", BoundaryTests::nothingToUndo);
        sentence("7: two hundred are taken back", BoundaryTests::twoHundredUndone);
        sentence("7: The last ORDER that was done is taken back", BoundaryTests::undoOfEachOrder);
        sentence("7: and with it the PARTY so far", BoundaryTests::undoLessensTheParty);
        sentence("8: with nothing to begin anew", BoundaryTests::anewTwiceAndWithNothingDone);
        sentence("8: The SEARCH begins anew, and nothing else", BoundaryTests::anewLeavesTheRest);
    }

    private static void asking() {
        sentence("9: NONE for others", BoundaryTests::countNoneForOthers);
        sentence("9: whether all is SEARCHED, without CAVES", BoundaryTests::allSearchedWithoutCaves);
        sentence("9: PARTS of the MAP, whether it is a TREE", BoundaryTests::partsAndTrees);
        sentence("9: the PARTY so far", BoundaryTests::thePartySoFar);
        sentence("10: NONE for others", BoundaryTests::lookNoneForOthers);
        sentence("10: Of CAVE c, of PASSAGE p", BoundaryTests::cavesAndPassagesAreNumberedApart);
        sentence("10: NONE for a PASSAGE that is gone", BoundaryTests::noPassageThatIsGone);
        sentence("10: whether the last ORDER (done) made it LOST that was not", BoundaryTests::madeLostByTheLastOrder);
    }

    private static void solving() {
        sentence("11: NONE: no such LAW", BoundaryTests::noSuchLaw);
        sentence("11: NONE: no CAVES", BoundaryTests::noCavesToSolve);
        sentence("11: NONE: more than 6 CAVES", BoundaryTests::sixCavesAndNoMore);
        sentence("11: NONE: more than 8 PASSAGES", BoundaryTests::eightPassagesAndNoMore);
        sentence("11: 8 PASSAGES with high numbers", BoundaryTests::passagesAreCountedNotNumbered);
        sentence("11: PASSAGES 0 to 17, one of them", BoundaryTests::plansAlongEachPassage);
        sentence("11: PASSAGES 0 to 17, the last of them", BoundaryTests::aRingOfTheLastPassages);
        sentence("11: of at most 6 CAVES and 8 PASSAGES", BoundaryTests::theFullestMap);
        sentence("11: 4: none of 1 to 3", BoundaryTests::noneOfOneToThree);
        sentence("11: none is ahead of any", BoundaryTests::noneAheadOfAny);
        sentence("11: none is behind a change of CAVES and PASSAGES", BoundaryTests::noneBehindAChange);
        sentence("11: THE PLAN is told by plan() from now on", BoundaryTests::thePlanStaysOtherwise);
        sentence("11: the SEARCH is left alone", BoundaryTests::fewestLeavesTheSearch);
        sentence("11: of those of this PARTY or less the shortest", BoundaryTests::theLeastPartyOutdoesTheShortest);
        sentence("11: of like ones the least, ORDER by ORDER", BoundaryTests::theLeastOfLikePlans);
        sentence("12: NONE for others", BoundaryTests::planNoneForOthers);
        sentence("12: PASSAGE (SLIDE; else NONE)", BoundaryTests::onlyASlideHasAPassage);
        sentence("13: NONE: no such k", BoundaryTests::noSuchK);
        sentence("13: -2: there is none (k or fewer do)", BoundaryTests::kOrFewerDo);
        sentence("13: the beginning too", BoundaryTests::theBeginningToo);
        sentence("13: of LAW 1 STANDS behind a SLIDE and those ahead of any are two", BoundaryTests::ofLaw1TwoStands);
        sentence("13: by LAW 1 no PUT behind a SLIDE", BoundaryTests::noPutBehindASlide);
        sentence("13: by LAW 0 any ORDERS", BoundaryTests::aLiftMayLose);
        sentence("13: each call by its own LAW", BoundaryTests::lawsDoNotMix);
    }

    private static void judgingAndLayingOut() {
        sentence("14: NONE: no such LAW", BoundaryTests::noSuchLawToJudge);
        sentence("14: NONE: no CAVES", BoundaryTests::noCavesToJudge);
        sentence("14: as large and as long as can be", BoundaryTests::judgedLargeAndLong);
        sentence("14: all is SEARCHED by the last one, not ahead of it", BoundaryTests::searchedByTheLastNotAhead);
        sentence("14: a GUARD being a SLIDE", BoundaryTests::aGuardIsASlide);
        sentence("14: no LIFT", BoundaryTests::noLift);
        sentence("14: each PUT is into THE MOUTH, by THE MOUTH as it is", BoundaryTests::eachPutIntoTheMouth);
        sentence("14: no PUT behind a SLIDE, by LAW 1 alone", BoundaryTests::putsBehindASlideFromTheMouth);
        sentence("14: behind each ORDER they hang together", BoundaryTests::hangTogetherBehindEachOrder);
        sentence("15: which changes places with the one there", BoundaryTests::placesOfEveryCave);
        sentence("15: false: no such ones", BoundaryTests::noSuchPlace);
        sentence("16: NONE for others", BoundaryTests::cutNoneForOthers);
        sentence("16: NONE without CAVES", BoundaryTests::noCutWithoutCaves);
        sentence("16: behind the LAYOUT's i-th CAVE", BoundaryTests::cutsOfTheLayout);
        sentence("16: i 0: the greatest of all", BoundaryTests::theGreatestCutStandsAnywhere);
        sentence("17: NONE: no CAVES", BoundaryTests::noWidthWithoutCaves);
        sentence("17: of one CAVE and of twelve", BoundaryTests::theLeastAndTheMostCaves);
        sentence("17: THE LAYOUT is the least such one", BoundaryTests::theLeastSuchLayout);
        sentence("17: THE LAYOUT becomes the LAYOUT, and nothing else changes", BoundaryTests::widthTakesOnlyTheLayout);
    }

    public static void main(String[] args) {
        terms();
        makingTheMap();
        searching();
        asking();
        solving();
        judgingAndLayingOut();
        System.out.println(told + " sentences");
        tellAndEnd();
    }
}
