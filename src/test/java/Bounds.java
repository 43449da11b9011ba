import java.util.ArrayList;
import java.util.HashMap;
import java.util.List;
import java.util.Map;
import java.util.TreeSet;

/**
 * How a bound is held: the last numbers that are taken, the first ones that are refused and many
 * beyond them, and that behind the refused calls the state is as it is without them: the views ask for
 * it, the long lists by samples.
 */
abstract class Bounds extends Checks {
    /** A run of calls that leads to a state; the same one every time. */
    interface Start {
        Watch make();
    }

    /** A call; its answer is NONE where it is refused. */
    interface Ask {
        int on(Watch w);
    }

    interface AskWith {
        int on(Watch w, int v);
    }

    private interface View {
        void tell(Watch w, List<Integer> told);
    }

    /** Together with a start and a view they stay within the 512 calls. */
    private static final int REFUSED_AT_ONCE = 100;

    private static final View[] VIEWS = {
        (w, told) -> tellLog(w, told, 0, 30),
        (w, told) -> tellLog(w, told, 30, 60),
        Bounds::tellFires,
        Bounds::tellSquares,
        Bounds::tellSeen,
        Bounds::tellHidden,
        Bounds::tellMinutes,
        Bounds::tellUndone,
        Bounds::tellClaims,
        Bounds::tellNew,
    };

    private static final Map<Start, List<List<Integer>>> UNTOUCHED = new HashMap<>();

    static int told(boolean answer) {
        return answer ? 1 : NONE;
    }

    /** Numbers out of from .. to: those beside it, those whose lowest bits lie within, the least and the greatest int. */
    static int[] outside(int from, int to) {
        TreeSet<Integer> all = new TreeSet<>(List.of(MIN, MIN + 1, MAX - 1, MAX, from - 2, from - 1, to + 1, to + 2));
        for (int b = 0; b < 31; b++) {
            for (int by = -1; by <= 1; by++) {
                all.add((1 << b) + by);
                all.add(by - (1 << b));
            }
        }
        for (int turn : new int[] {8, 16, 20, 32, 50, 60, 64, 256, 1 << 28}) {
            all.add(from - turn);
            all.add(from + turn);
            all.add(to - turn);
            all.add(to + turn);
        }
        return all.stream().mapToInt(v -> v).filter(v -> v < from || v > to).toArray();
    }

    /** Of from .. to the first and the last one are taken, all that lies outside is refused, doing nothing. */
    static void bounds(String name, Start start, int from, int to, AskWith ask) {
        taken(name, start, ask, from, to);
        refused(name, start, ask, outside(from, to));
    }

    static void taken(String name, Start start, AskWith ask, int... values) {
        for (int v : values) {
            int got = ask.on(start.make(), v);
            if (got == NONE) {
                is(name + " " + v + " is to be taken and", got, 0);
            }
        }
    }

    static void refused(String name, Start start, AskWith ask, int... values) {
        List<Ask> asks = new ArrayList<>();
        for (int v : values) {
            asks.add(w -> {
                int got = ask.on(w, v);
                is(name + " " + v, got, NONE);
                return got;
            });
        }
        for (int n = 0; n < asks.size(); n += REFUSED_AT_ONCE) {
            nothingDone(name, start, asks.subList(n, Math.min(asks.size(), n + REFUSED_AT_ONCE)));
        }
    }

    /** One refused call, on its own. */
    static void refused(String name, Start start, Ask ask) {
        refused(name, start, (w, v) -> ask.on(w), 0);
    }

    private static void nothingDone(String name, Start start, List<Ask> asks) {
        List<List<Integer>> due = UNTOUCHED.computeIfAbsent(start, s -> viewsOf(s, List.of()));
        List<List<Integer>> got = viewsOf(start, asks);
        for (int v = 0; v < VIEWS.length; v++) {
            if (!got.get(v).equals(due.get(v))) {
                yes(name + ": something was done, view " + v + " tells " + got.get(v) + ", due is " + due.get(v), false);
            }
        }
    }

    /** A view may change what it looks at, so each has an object of its own. */
    private static List<List<Integer>> viewsOf(Start start, List<Ask> asks) {
        List<List<Integer>> all = new ArrayList<>();
        for (View view : VIEWS) {
            Watch w = start.make();
            for (Ask ask : asks) {
                ask.on(w);
            }
            List<Integer> told = new ArrayList<>();
            view.tell(w, told);
            all.add(told);
        }
        return all;
    }

    private static void tellCounts(Watch w, List<Integer> told) {
        for (int what = 0; what < 6; what++) {
            told.add(w.count(what));
        }
    }

    private static void tellLog(Watch w, List<Integer> told, int from, int to) {
        tellCounts(w, told);
        for (int i = from; i < to; i++) {
            for (int what = 0; what < 7; what++) {
                told.add(w.log(i, what));
            }
        }
    }

    private static void tellFires(Watch w, List<Integer> told) {
        for (int f = 0; f < 20; f++) {
            for (int what = 0; what < 5; what++) {
                told.add(w.fire(f, what));
            }
            told.add(w.sent(f));
            told.add(w.patch(f, 0));
            told.add(w.patch(f, 1));
        }
        for (int k = 0; k < 8; k++) {
            told.add(w.place(k));
        }
        told.add(w.send());
        for (int f = 0; f < 20; f++) {
            told.add(w.sent(f));
        }
    }

    private static void tellSquares(Watch w, List<Integer> told) {
        for (int i = 0; i < 60; i++) {
            told.add(w.squares(i, 0));
            told.add(w.squares(i, 2));
            told.add(w.squares(i, 9));
        }
        told.add(w.fewest(0, 102));
        told.add(w.next(0));
    }

    private static void tellSeen(Watch w, List<Integer> told) {
        for (int q = 0; q < 256; q++) {
            told.add(w.see(0, q / 16, q % 16));
        }
        told.add(w.blinds());
        told.add(w.best());
    }

    private static void tellHidden(Watch w, List<Integer> told) {
        for (int q = 0; q < 256; q += 3) {
            told.add(w.hidden(0, q / 16, q % 16));
            told.add(w.see(1, q / 16, q % 16));
        }
        for (int k = 0; k < 20; k++) {
            told.add(w.blind(k));
        }
    }

    private static void tellMinutes(Watch w, List<Integer> told) {
        told.add(w.crew(0, 0));
        for (int q = 0; q < 256; q++) {
            told.add(w.minutes(0, q / 16, q % 16));
        }
        for (int i = 0; i < 20; i++) {
            told.add(w.way(0, 0, 0, i));
        }
    }

    private static void tellUndone(Watch w, List<Integer> told) {
        for (int n = 0; n < 52; n++) {
            told.add(told(w.undo()));
            told.add(w.count(1));
            told.add(w.count(2));
            told.add(w.place(0));
        }
        tellCounts(w, told);
        for (int i = 0; i < 60; i++) {
            told.add(w.log(i, 0));
        }
    }

    /** Which places are wrongly said to be of a fire, one after the other. */
    private static void tellClaims(Watch w, List<Integer> told) {
        for (int n = 0; n < 61; n++) {
            int i = w.check();
            told.add(i);
            told.add(told(w.claim(i, NONE)));
        }
    }

    /** What calls that do something answer next. */
    private static void tellNew(Watch w, List<Integer> told) {
        told.add(w.tower(0, 0, 7));
        told.add(told(w.square(0, 0, 7, 7)));
        told.add(w.office());
        told.add(w.remark(3));
        told.add(w.report(0, 0, 3, 1, 1, 90));
        told.add(w.crew(0, 0));
        for (int i = 0; i < 60; i++) {
            told.add(w.begin(i));
        }
        tellCounts(w, told);
    }
}
