/** What the tests share: how an answer is held against the one that is due, and woods to begin with. */
abstract class Checks {
    static final int NONE = SmokeWatch.NONE;
    static final int MIN = Integer.MIN_VALUE;
    static final int MAX = Integer.MAX_VALUE;

    static int wrong;
    static String promise = "";

    static void is(String call, int got, int due) {
        if (got != due) {
            wrong++;
            System.out.println(promise + ": " + call + " answered " + got + ", due is " + due);
        }
    }

    static void yes(String call, boolean got) {
        is(call, got ? 1 : 0, 1);
    }

    static void no(String call, boolean got) {
        is(call, got ? 1 : 0, 0);
    }

    static void finish(String good) {
        System.out.println(wrong == 0 ? good : wrong + " answers are wrong");
        System.exit(wrong == 0 ? 0 : 1);
    }

    /** A flat wood of n rows of n squares, a minute each. */
    static Watch flat(int n) {
        Watch w = new Watch();
        for (int r = 0; r < n; r++) {
            w.row(r, n, 0, 1);
        }
        return w;
    }

    /** A BEARING's place. */
    static int bearing(Watch w, int t, int minute, int down, int right, int side) {
        return w.sight(0, t, minute, down, right, side, 0, 0);
    }

    static void squaresAre(Watch w, int i, int... due) {
        is("log(" + i + ", 3)", w.log(i, 3), due.length);
        for (int k = 0; k < due.length; k++) {
            is("squares(" + i + ", " + k + ")", w.squares(i, k), due[k]);
        }
        is("squares behind the last", w.squares(i, due.length), NONE);
    }

    static void patchIs(Watch w, int f, int... due) {
        is("fire(" + f + ", 2)", w.fire(f, 2), due.length);
        for (int k = 0; k < due.length; k++) {
            is("patch(" + f + ", " + k + ")", w.patch(f, k), due[k]);
        }
        is("patch behind the last", w.patch(f, due.length), NONE);
    }
}
