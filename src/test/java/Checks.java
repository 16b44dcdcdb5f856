import java.util.ArrayList;
import java.util.List;
import java.util.function.Consumer;

/** What the tests share: answers held against those that are due, maps, and all that can be asked of a party. */
abstract class Checks {
    static final int NONE = CaveParty.NONE;
    static final int FAR = Integer.MAX_VALUE;
    static final int DEEP = Integer.MIN_VALUE;
    private static int wrong = 0;
    private static String heading = "";

    /** Is told with each wrong answer until the next one. */
    static void under(String text) {
        heading = text.isEmpty() ? "" : text + ": ";
    }

    static void due(String call, long got, long want) {
        if (got != want) {
            wrong++;
            System.out.println(heading + call + " answered " + got + ", due is " + want);
        }
    }

    static void due(String call, boolean got, boolean want) {
        due(call, got ? 1L : 0L, want ? 1L : 0L);
    }

    /** A party with n caves and passages between the given ends, two and two. */
    static CaveParty party(int n, int... ends) {
        CaveParty x = new CaveParty();
        due("caves(" + n + ")", x.caves(n), true);
        for (int i = 0; i + 1 < ends.length; i += 2) {
            due("passage(" + ends[i] + ", " + ends[i + 1] + ")", x.passage(ends[i], ends[i + 1]), i / 2);
        }
        return x;
    }

    /** Two caves with so many passages between them. */
    static CaveParty bundle(int passages) {
        CaveParty x = party(2);
        for (int p = 0; p < passages; p++) {
            due("passage(0, 1)", x.passage(0, 1), p);
        }
        return x;
    }

    static CaveParty path(int n) {
        CaveParty x = party(n);
        for (int c = 0; c + 1 < n; c++) {
            due("passage(" + c + ", " + (c + 1) + ")", x.passage(c, c + 1), c);
        }
        return x;
    }

    /** Orders that all can be done, three numbers each. */
    static void done(CaveParty x, int... orders) {
        for (int i = 0; i + 2 < orders.length; i += 3) {
            due("order(" + orders[i] + ", " + orders[i + 1] + ", " + orders[i + 2] + ")",
                x.order(orders[i], orders[i + 1], orders[i + 2]), 1);
        }
    }

    static void counts(CaveParty x, String why, int... want) {
        for (int what = 0; what < want.length; what++) {
            due(why + ": count(" + what + ")", x.count(what), want[what]);
        }
    }

    static void planIs(CaveParty x, String why, int... want) {
        due(why + ": plan(NONE, 0)", x.plan(NONE, 0), want.length / 3);
        for (int i = 0; i < want.length; i++) {
            due(why + ": plan(" + i / 3 + ", " + i % 3 + ")", x.plan(i / 3, i % 3), want[i]);
        }
        due(why + ": no order behind the last", x.plan(want.length / 3, 0), NONE);
    }

    static void noPlan(CaveParty x, String why) {
        for (int i = -1; i < 3; i++) {
            for (int what = -1; what < 4; what++) {
                due(why + ": plan(" + i + ", " + what + ")", x.plan(i, what), NONE);
            }
        }
    }

    static void rowIs(CaveParty x, String why, int... row) {
        for (int i = 0; i < row.length; i++) {
            due(why + ": look(" + row[i] + ", 3)", x.look(row[i], 3), i);
        }
    }

    static void judged(CaveParty x, String why, int any, int putsAhead, int fromTheMouth) {
        due(why + ": judge(0)", x.judge(0), any);
        due(why + ": judge(1)", x.judge(1), putsAhead);
        due(why + ": judge(2)", x.judge(2), fromTheMouth);
    }

    /** The answer of every call that only asks, each with the call. */
    static List<String> answers(CaveParty x) {
        List<String> all = new ArrayList<>();
        for (int what = -1; what <= 11; what++) {
            all.add("count(" + what + ") -> " + x.count(what));
        }
        for (int which = -1; which <= 18; which++) {
            for (int what = -1; what <= 8; what++) {
                all.add("look(" + which + ", " + what + ") -> " + x.look(which, what));
            }
        }
        for (int i = -1; i <= 13; i++) {
            all.add("cut(" + i + ") -> " + x.cut(i));
        }
        for (int law = -1; law <= 3; law++) {
            all.add("judge(" + law + ") -> " + x.judge(law));
        }
        for (int i = -1; i <= Math.max(0, x.plan(NONE, 0)); i++) {
            for (int what = -1; what <= 3; what++) {
                all.add("plan(" + i + ", " + what + ") -> " + x.plan(i, what));
            }
        }
        return all;
    }

    /** Both answer alike now, and behind each undo until nothing is left to take back. */
    static void alike(String why, CaveParty x, CaveParty twin) {
        for (int steps = 0; steps <= 201; steps++) {
            List<String> got = answers(x);
            List<String> want = answers(twin);
            due(why + ": how much can be asked", got.size(), want.size());
            for (int i = 0; i < got.size() && i < want.size(); i++) {
                if (!got.get(i).equals(want.get(i))) {
                    due(why + ", " + steps + " taken back: " + got.get(i) + " where " + want.get(i)
                        + " is due: changed", 1, 0);
                }
            }
            boolean more = twin.undo();
            due(why + ": undo()", x.undo(), more);
            if (!more) {
                return;
            }
        }
    }

    /** A call changes nothing: two parties that were made alike stay so, though one of them was asked. */
    static void changesNothing(String why, Consumer<CaveParty> past, Consumer<CaveParty> call) {
        CaveParty x = new CaveParty();
        CaveParty twin = new CaveParty();
        past.accept(x);
        past.accept(twin);
        call.accept(x);
        alike(why, x, twin);
    }

    static void tellAndEnd() {
        System.out.println(wrong == 0 ? "all answers are as due" : wrong + " answers are not as due");
        if (wrong != 0) {
            System.exit(1);
        }
    }
}
