/** A SmokeWatch whose calls are counted: what is answered behind the 512th is free, so no test may ask there. */
final class Watch {
    static final int CALLS = 512;

    private final SmokeWatch watch = new SmokeWatch();
    private int calls;

    int calls() {
        return calls;
    }

    private SmokeWatch called() {
        calls++;
        if (calls > CALLS) {
            throw new IllegalStateException("a test asks behind the 512th call");
        }
        return watch;
    }

    boolean row(int r, int n, int height, int minutes) {
        return called().row(r, n, height, minutes);
    }

    boolean square(int r, int c, int height, int minutes) {
        return called().square(r, c, height, minutes);
    }

    int tower(int r, int c, int height) {
        return called().tower(r, c, height);
    }

    int see(int t, int r, int c) {
        return called().see(t, r, c);
    }

    int hidden(int t, int r, int c) {
        return called().hidden(t, r, c);
    }

    int sight(int kind, int t, int minute, int down, int right, int side, int reach, int haze) {
        return called().sight(kind, t, minute, down, right, side, reach, haze);
    }

    int report(int r, int c, int minute, int down, int right, int side) {
        return called().report(r, c, minute, down, right, side);
    }

    int remark(int v) {
        return called().remark(v);
    }

    boolean clear(int i) {
        return called().clear(i);
    }

    int log(int i, int what) {
        return called().log(i, what);
    }

    int squares(int i, int k) {
        return called().squares(i, k);
    }

    boolean join(int i, int f) {
        return called().join(i, f);
    }

    int begin(int i) {
        return called().begin(i);
    }

    boolean apart(int i) {
        return called().apart(i);
    }

    int office() {
        return called().office();
    }

    boolean out(int f) {
        return called().out(f);
    }

    int fire(int f, int what) {
        return called().fire(f, what);
    }

    int patch(int f, int k) {
        return called().patch(f, k);
    }

    int fewest(int from, int to) {
        return called().fewest(from, to);
    }

    int next(int f) {
        return called().next(f);
    }

    int crew(int r, int c) {
        return called().crew(r, c);
    }

    boolean move(int k, int r, int c) {
        return called().move(k, r, c);
    }

    int place(int k) {
        return called().place(k);
    }

    int minutes(int k, int r, int c) {
        return called().minutes(k, r, c);
    }

    int way(int k, int r, int c, int i) {
        return called().way(k, r, c, i);
    }

    int send() {
        return called().send();
    }

    int sent(int f) {
        return called().sent(f);
    }

    int blinds() {
        return called().blinds();
    }

    int blind(int k) {
        return called().blind(k);
    }

    int best() {
        return called().best();
    }

    boolean claim(int i, int f) {
        return called().claim(i, f);
    }

    int check() {
        return called().check();
    }

    boolean undo() {
        return called().undo();
    }

    int count(int what) {
        return called().count(what);
    }
}
