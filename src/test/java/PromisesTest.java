import java.util.ArrayList;
import java.util.List;

/** Every promise of the document by its number: ordinary inputs, edges, wrong inputs. */
public final class PromisesTest extends Checks {
    public static void main(String[] args) {
        newObject();
        rows();
        squaresOfTheWood();
        towers();
        seeing();
        hiding();
        linesByFractions();
        sights();
        hazes();
        reports();
        remarksAndClears();
        logs();
        squaresOfSightings();
        joins();
        begins();
        aparts();
        offices();
        outs();
        fires();
        middles();
        patches();
        fewests();
        nexts();
        crews();
        moves();
        minutes();
        ways();
        sends();
        sendsByNumbers();
        blinds();
        bests();
        claims();
        undos();
        undosOfFires();
        undosBeyondFifty();
        counts();
        anyArguments();
        finish("all promises hold");
    }

    private static void newObject() {
        promise = "1 new object";
        is("NONE", SmokeWatch.NONE, -1);
        Watch w = new Watch();
        for (int what = 0; what < 6; what++) {
            is("count(" + what + ")", w.count(what), 0);
        }
        is("tower", w.tower(0, 0, 0), NONE);
        is("crew", w.crew(0, 0), NONE);
        is("blinds", w.blinds(), 0);
        no("undo", w.undo());
        is("check", w.check(), NONE);
        is("log(59, 0)", w.log(59, 0), 6);
    }

    private static void rows() {
        promise = "2 row";
        Watch w = new Watch();
        yes("all of it", w.row(15, 16, 3000, 60));
        is("count(5)", w.count(5), 16);
        yes("least", w.row(0, 1, -1000, 1));
        is("count(5)", w.count(5), 17);
        yes("shorter", w.row(15, 3, 0, 1));
        is("count(5)", w.count(5), 4);
        is("it's missing behind", w.crew(15, 3), NONE);
        yes("missing, with anything", w.row(15, 0, 99999, -7));
        is("count(5)", w.count(5), 1);
        no("r -1", w.row(-1, 1, 0, 1));
        no("r 16", w.row(16, 1, 0, 1));
        no("n -1", w.row(1, -1, 0, 1));
        no("n 17", w.row(1, 17, 0, 1));
        no("height", w.row(1, 1, -1001, 1));
        no("height", w.row(1, 1, 3001, 1));
        no("minutes", w.row(1, 1, 0, 0));
        no("minutes", w.row(1, 1, 0, 61));
        is("count(5)", w.count(5), 1);
        fullWood();
        takesAllAway();
        newFiresBehindARow();
    }

    private static void fullWood() {
        Watch w = flat(16);
        is("all of it", w.count(5), 256);
        is("no square, though 16 r + c is one's number", w.crew(1, -1), NONE);
        is("no square, though 16 r + c is one's number", w.crew(0, 16), NONE);
        is("no square, though 16 r + c is one's number", w.crew(-1, 16), NONE);
        is("no square", w.crew(16, 0), NONE);
        is("no square", w.crew(15, 16), NONE);
        is("the last", w.crew(15, 15), 0);
        is("its number", w.place(0), 255);
        w.crew(0, 0);
        is("from corner to corner", w.minutes(0, 0, 0), 30);
        is("the way's end", w.way(0, 0, 0, 30), 0);
    }

    private static void newFiresBehindARow() {
        Watch w = flat(3);
        w.report(0, 0, 5, 1, 1, 0);
        w.begin(0);
        w.out(0);
        w.row(0, 3, 0, 1);
        w.report(0, 0, 5, 1, 1, 0);
        is("begin", w.begin(0), 0);
        is("it BURNS", w.fire(0, 0), 0);
    }

    private static Watch busy() {
        Watch w = flat(4);
        w.tower(0, 0, 10);
        w.crew(3, 3);
        bearing(w, 0, 5, 1, 1, 20);
        w.begin(0);
        w.claim(0, 7);
        bearing(w, 0, 5, 1, 1, 20);
        w.claim(1, 7);
        is("send", w.send(), 2);
        is("sent", w.sent(0), 0);
        is("check", w.check(), 1);
        return w;
    }

    private static void takesAllAway() {
        Watch w = busy();
        no("a wrong one", w.row(4, 17, 0, 1));
        is("it takes nothing", w.count(0) + w.count(1) + w.count(2) + w.count(3) + w.count(4), 1 + 2 + 1 + 1 + 4);
        is("sent stays", w.sent(0), 0);
        yes("a missing one", w.row(9, 0, 0, 0));
        for (int what = 0; what < 5; what++) {
            is("count(" + what + ")", w.count(what), 0);
        }
        is("count(5)", w.count(5), 16);
        is("sent", w.sent(0), NONE);
        no("undo", w.undo());
        is("log", w.log(0, 0), 6);
        is("fire", w.fire(0, 0), NONE);
        w.tower(0, 0, 10);
        bearing(w, 0, 5, 1, 1, 20);
        bearing(w, 0, 5, 1, 1, 20);
        is("the claims are alone again", w.check(), NONE);
        is("it is in no fire", w.log(0, 4), NONE);
    }

    private static void squaresOfTheWood() {
        promise = "3 square";
        Watch w = flat(3);
        w.tower(0, 0, 10);
        yes("square", w.square(0, 1, 3000, 60));
        is("the tower stays", w.count(0), 1);
        is("it hides", w.see(0, 0, 2), 0);
        yes("lower again", w.square(0, 1, -1000, 1));
        is("it hides no more", w.see(0, 0, 2), 1);
        no("missing", w.square(0, 3, 0, 1));
        no("missing", w.square(-1, 0, 0, 1));
        no("height", w.square(0, 0, -1001, 1));
        no("height", w.square(0, 0, 3001, 1));
        no("minutes", w.square(0, 0, 0, 0));
        no("minutes", w.square(0, 0, 0, 61));
        w.remark(1);
        no("a remark is there", w.square(0, 0, 0, 1));
        w.clear(0);
        yes("the log has nothing", w.square(0, 0, 0, 1));
        w.crew(2, 2);
        no("a crew is there", w.square(0, 0, 0, 1));
        w.undo();
        yes("no crew", w.square(0, 0, 0, 1));
        bearing(w, 0, 1, 1, 1, 0);
        w.begin(0);
        w.apart(0);
        w.clear(0);
        no("a fire is there, though it's GONE", w.square(0, 0, 0, 1));
        is("fire", w.fire(0, 0), 2);
    }

    private static void towers() {
        promise = "4 tower";
        Watch w = flat(3);
        is("missing", w.tower(3, 0, 0), NONE);
        is("missing", w.tower(0, 3, 0), NONE);
        is("height", w.tower(0, 0, -1), NONE);
        is("height", w.tower(0, 0, 101), NONE);
        is("first", w.tower(0, 0, 0), 0);
        is("the same square", w.tower(0, 0, 100), 1);
        w.remark(5);
        is("the log has one", w.tower(1, 1, 0), NONE);
        w.clear(0);
        for (int t = 2; t < 8; t++) {
            is("tower", w.tower(1, 1, 0), t);
        }
        is("there are 8", w.tower(1, 1, 0), NONE);
        is("count", w.count(0), 8);
    }

    private static void seeing() {
        promise = "5 see";
        Watch w = flat(5);
        w.tower(2, 2, 0);
        is("its own", w.see(0, 2, 2), 1);
        is("beside", w.see(0, 2, 3), 1);
        is("by the corner", w.see(0, 1, 3), 1);
        is("a line on the ground is hidden", w.see(0, 2, 4), 0);
        is("no tower", w.see(1, 0, 0), NONE);
        is("no tower", w.see(-1, 0, 0), NONE);
        is("missing", w.see(0, 5, 0), NONE);
        is("missing", w.see(0, 0, -1), NONE);
        w.tower(2, 2, 1);
        is("above the ground", w.see(1, 2, 4), 1);
        is("above the ground, aslant", w.see(1, 0, 1), 1);
        missingHides();
    }

    private static void missingHides() {
        Watch w = new Watch();
        w.row(0, 4, 0, 1);
        w.row(1, 1, 0, 1);
        w.row(2, 4, 0, 1);
        w.tower(0, 0, 100);
        is("over a missing one", w.see(0, 2, 2), 0);
        is("no missing one", w.see(0, 2, 0), 1);
        w.tower(0, 3, 100);
        is("over a missing one", w.see(1, 2, 3), 0);
        is("hidden by it", w.hidden(1, 2, 3), 19);
    }

    private static void hiding() {
        promise = "6 hidden";
        Watch w = flat(6);
        w.tower(0, 0, 10);
        w.square(0, 2, 50, 1);
        w.square(0, 3, 50, 1);
        is("the first", w.hidden(0, 0, 5), 2);
        is("itself is seen", w.hidden(0, 0, 2), NONE);
        is("behind it not", w.hidden(0, 0, 3), 2);
        is("own", w.hidden(0, 0, 0), NONE);
        is("no tower", w.hidden(1, 0, 5), NONE);
        is("missing", w.hidden(0, 0, 6), NONE);
        w.tower(0, 5, 10);
        is("from the other side", w.hidden(1, 0, 0), 3);
        w.square(1, 1, 40, 1);
        w.square(2, 2, 40, 1);
        is("over the corners", w.hidden(0, 3, 3), 17);
        w.square(1, 1, 0, 1);
        is("over the corners", w.hidden(0, 3, 3), 34);
        w.square(2, 2, 0, 1);
        w.square(0, 1, 3000, 1);
        w.square(1, 0, 3000, 1);
        is("a corner is not gone through", w.hidden(0, 3, 3), NONE);
        is("some of the inside is", w.hidden(0, 1, 2), 1);
        is("missing target as see", w.hidden(0, 6, 6), NONE);
    }

    private static void linesByFractions() {
        promise = "6 the heights of a line";
        // The eye is 16 high, the goal 0, two squares on: square 1 is gone through from 1/4 to 3/4.
        Watch w = flat(3);
        w.tower(0, 0, 16);
        w.square(0, 1, 3, 1);
        is("below the lower one", w.see(0, 0, 2), 1);
        w.square(0, 1, 4, 1);
        is("at the lower one, where it goes out", w.see(0, 0, 2), 0);
        // Rising from 0 to 16: the lower one is where it comes in.
        w = flat(3);
        w.tower(0, 0, 0);
        w.square(0, 2, 16, 1);
        w.square(0, 1, 3, 1);
        is("below the lower one", w.see(0, 0, 2), 1);
        w.square(0, 1, 4, 1);
        is("at the lower one, where it comes in", w.see(0, 0, 2), 0);
        // To (1, 2) from (0, 0): square (0, 1) from 1/4 to 1/2, (1, 1) from 1/2 to 3/4.
        w = flat(3);
        w.tower(0, 0, 16);
        w.square(0, 1, 7, 1);
        w.square(1, 1, 3, 1);
        is("both below", w.see(0, 1, 2), 1);
        w.square(0, 1, 8, 1);
        is("the first at it", w.hidden(0, 1, 2), 1);
        w.square(0, 1, 7, 1);
        w.square(1, 1, 4, 1);
        is("the second at it", w.hidden(0, 1, 2), 17);
        // A third is no whole number: to (0, 3) from 10 high, square 1 goes out at 1/2, 2 at 5/6 (1 2/3).
        w = flat(4);
        w.tower(0, 0, 10);
        w.square(0, 2, 1, 1);
        is("1 is below 1 2/3", w.see(0, 0, 3), 1);
        w.square(0, 2, 2, 1);
        is("2 is above 1 2/3", w.hidden(0, 0, 3), 2);
    }

    private static void sights() {
        promise = "7 sight";
        Watch w = flat(6);
        w.tower(2, 2, 10);
        is("kind -1", w.sight(-1, 0, 0, 1, 0, 0, 1, 0), NONE);
        is("kind 4", w.sight(4, 0, 0, 1, 0, 0, 1, 0), NONE);
        is("no tower", w.sight(0, 1, 0, 1, 0, 0, 1, 0), NONE);
        is("no tower", w.sight(0, -1, 0, 1, 0, 0, 1, 0), NONE);
        is("minute", bearing(w, 0, -1, 1, 0, 0), NONE);
        is("minute", bearing(w, 0, 10000, 1, 0, 0), NONE);
        is("no direction", bearing(w, 0, 0, 0, 0, 0), NONE);
        is("down", bearing(w, 0, 0, -51, 0, 0), NONE);
        is("down", bearing(w, 0, 0, 51, 0, 0), NONE);
        is("right", bearing(w, 0, 0, 0, -51, 0), NONE);
        is("right", bearing(w, 0, 0, 0, 51, 0), NONE);
        is("side", bearing(w, 0, 0, 1, 0, -1), NONE);
        is("side", bearing(w, 0, 0, 1, 0, 401), NONE);
        is("SHORT's reach", w.sight(1, 0, 0, 1, 0, 0, 0, 0), NONE);
        is("SHORT's reach", w.sight(1, 0, 0, 1, 0, 0, 41, 0), NONE);
        is("FAINT's reach", w.sight(2, 0, 0, 1, 0, 0, 0, 0), NONE);
        is("FAINT's reach", w.sight(2, 0, 0, 1, 0, 0, 41, 0), NONE);
        is("nothing is done", w.count(1) + w.count(4), 0);
        is("the edges", bearing(w, 0, 9999, -50, 50, 400), 0);
        yes("clear", w.clear(0));
        is("the edges", bearing(w, 0, 0, 50, -50, 0), 0);
        is("BEARING's reach counts for nothing", w.sight(0, 0, 0, 1, 0, 0, -5, 0x7FC00000), 1);
        is("SHORT's haze counts for nothing", w.sight(1, 0, 0, 1, 0, 0, 40, 0x7FC00000), 2);
        is("GLOW's reach counts for nothing", w.sight(3, 0, 0, 1, 0, 0, 41, -1), 3);
        w.clear(1);
        is("the first that has nothing", bearing(w, 0, 0, 1, 0, 0), 1);
        for (int i = 4; i < 60; i++) {
            is("place", bearing(w, 0, 0, 1, 0, 0), i);
        }
        is("there are 60", bearing(w, 0, 0, 1, 0, 0), NONE);
        is("there are 60", w.report(0, 0, 0, 1, 0, 0), NONE);
        is("there are 60", w.remark(0), NONE);
        is("count", w.count(1), 60);
    }

    private static int reachInHaze(int reach, int haze) {
        Watch w = flat(1);
        w.tower(0, 0, 10);
        int i = w.sight(2, 0, 0, 1, 0, 0, reach, haze);
        return i == NONE ? NONE : w.log(i, 5);
    }

    private static void hazes() {
        promise = "7 haze";
        is("0", reachInHaze(40, 0), 40);
        is("minus zero is 0", reachInHaze(40, MIN), 40);
        is("1", reachInHaze(40, 0x3F800000), 0);
        is("above 1", reachInHaze(40, 0x3F800001), NONE);
        is("below 0", reachInHaze(40, 0x80000001), NONE);
        is("no number", reachInHaze(40, 0x7FC00000), NONE);
        is("no number", reachInHaze(40, -1), NONE);
        is("no bound", reachInHaze(40, 0x7F800000), NONE);
        is("minus no bound", reachInHaze(40, 0xFF800000), NONE);
        is("a half", reachInHaze(40, Float.floatToIntBits(0.5f)), 20);
        is("what is less is cut", reachInHaze(3, Float.floatToIntBits(0.5f)), 2);
        is("just below 1", reachInHaze(40, 0x3F7FFFFF), 40 - 40 * (int) (0.99999994f * 100f) / 100);
        for (int n = 0; n <= 2000; n++) {
            float haze = n / 2000f;
            int h = (int) (haze * 100f);
            is("haze " + haze, reachInHaze(40, Float.floatToIntBits(haze)), 40 - 40 * h / 100);
        }
        int[] small = {1, 0x007FFFFF, 0x00800000, 0x00800001, 0x0F123456};
        for (int bits : small) {
            is("bits " + bits, reachInHaze(40, bits), 40);
        }
    }

    private static void reports() {
        promise = "8 report";
        Watch w = flat(4);
        w.square(0, 1, 3000, 1);
        is("missing", w.report(4, 0, 0, 1, 0, 0), NONE);
        is("minute", w.report(0, 0, -1, 1, 0, 0), NONE);
        is("minute", w.report(0, 0, 10000, 1, 0, 0), NONE);
        is("direction", w.report(0, 0, 0, 0, 0, 0), NONE);
        is("down", w.report(0, 0, 0, 51, 0, 0), NONE);
        is("right", w.report(0, 0, 0, 0, -51, 0), NONE);
        is("side", w.report(0, 0, 0, 1, 0, 401), NONE);
        is("side", w.report(0, 0, 0, 1, 0, -1), NONE);
        is("no tower is needed", w.report(0, 0, 7, 0, 1, 0), 0);
        squaresAre(w, 0, 1, 2, 3);
        is("kind", w.log(0, 0), 4);
        is("minute", w.log(0, 1), 7);
        is("tower", w.log(0, 2), NONE);
        is("reach", w.log(0, 5), NONE);
        is("an act", w.count(4), 1);
    }

    private static void remarksAndClears() {
        promise = "9 remark, 10 clear";
        Watch w = flat(4);
        w.tower(0, 0, 10);
        is("remark", w.remark(MIN), 0);
        is("remark", w.remark(MAX), 1);
        is("number", w.log(0, 1), MIN);
        is("number", w.log(1, 1), MAX);
        is("kind", w.log(0, 0), 5);
        yes("clear", w.clear(0));
        no("it has nothing", w.clear(0));
        no("none such", w.clear(-1));
        no("none such", w.clear(60));
        no("never had any", w.clear(59));
        is("the first place again", w.remark(3), 0);
        is("acts", w.count(4), 4);
        bearing(w, 0, 1, 1, 1, 50);
        w.begin(2);
        no("it is JOINED", w.clear(2));
        w.out(0);
        no("it is JOINED to one that is OUT", w.clear(2));
        bearing(w, 0, 2, 1, 1, 50);
        w.begin(3);
        w.apart(3);
        yes("it has left", w.clear(3));
        for (int i = 3; i < 60; i++) {
            is("remark", w.remark(i), i);
        }
        is("there are 60", w.remark(0), NONE);
    }

    private static void logs() {
        promise = "11 log";
        Watch w = flat(8);
        w.tower(0, 0, 20);
        w.tower(7, 7, 20);
        w.sight(1, 1, 44, -1, -1, 0, 3, 0);
        is("kind", w.log(0, 0), 1);
        is("minute", w.log(0, 1), 44);
        is("tower", w.log(0, 2), 1);
        is("squares", w.log(0, 3), 2);
        is("fire", w.log(0, 4), NONE);
        is("reach", w.log(0, 5), 3);
        is("fits", w.log(0, 6), 0);
        is("what -1", w.log(0, -1), NONE);
        is("what 7", w.log(0, 7), NONE);
        is("nothing", w.log(1, 0), 6);
        is("of nothing 0 alone", w.log(1, 1), NONE);
        is("of nothing 0 alone", w.log(1, 6), NONE);
        is("no place", w.log(60, 0), NONE);
        is("no place", w.log(-1, 0), NONE);
        w.remark(9);
        for (int what = 2; what < 8; what++) {
            is("of a REMARK 0 and 1", w.log(1, what), NONE);
        }
        w.sight(3, 0, 1, 1, 1, 0, 5, 0);
        is("GLOW has no reach", w.log(2, 5), NONE);
        w.sight(0, 0, 2, 1, 1, 0, 5, 0);
        is("BEARING has no reach", w.log(3, 5), NONE);
        w.begin(2);
        w.begin(3);
        is("its fire", w.log(3, 4), 1);
        is("one that is in a fire fits none", w.log(3, 6), 0);
        is("it fits both", w.log(0, 6), 2);
        w.out(1);
        is("it fits the one that BURNS", w.log(0, 6), 1);
        w.apart(2);
        is("and none that is GONE", w.log(0, 6), 0);
    }

    private static void squaresOfSightings() {
        promise = "12 squares";
        Watch w = flat(5);
        w.tower(2, 2, 50);
        squaresAre(w, bearing(w, 0, 1, -1, 0, 0), 2, 18);
        squaresAre(w, bearing(w, 0, 1, 0, -7, 0), 32, 33);
        squaresAre(w, bearing(w, 0, 1, 1, 1, 0), 51, 68);
        squaresAre(w, bearing(w, 0, 1, 1, 0, 49), 50, 66);
        squaresAre(w, bearing(w, 0, 1, 1, 0, 50), 50, 65, 66, 67);
        squaresAre(w, bearing(w, 0, 1, 1, 0, 100), 49, 50, 51, 64, 65, 66, 67, 68);
        squaresAre(w, bearing(w, 0, 1, 2, 1, 0), 67);
        squaresAre(w, w.sight(1, 0, 1, 1, 1, 0, 1, 0));
        squaresAre(w, w.sight(1, 0, 1, 1, 1, 0, 2, 0), 51);
        squaresAre(w, w.sight(1, 0, 1, 1, 1, 0, 3, 0), 51, 68);
        squaresAre(w, w.sight(1, 0, 1, 1, 0, 0, 2, 0), 50, 66);
        squaresAre(w, w.sight(2, 0, 1, 1, 1, 0, 3, Float.floatToIntBits(0.5f)), 51);
        is("k -1", w.squares(0, -1), NONE);
        is("no place", w.squares(60, 0), NONE);
        is("no place", w.squares(-1, 0), NONE);
        is("nothing", w.squares(59, 0), NONE);
        int i = w.remark(4);
        is("a REMARK", w.squares(i, 0), NONE);
        seenIsAsked();
    }

    private static void seenIsAsked() {
        Watch w = flat(5);
        w.square(2, 3, 90, 1);
        w.tower(2, 2, 50);
        squaresAre(w, w.sight(0, 0, 1, 0, 1, 0, 0, 0), 35);
        squaresAre(w, w.sight(1, 0, 1, 0, 1, 0, 9, 0), 35);
        squaresAre(w, w.sight(2, 0, 1, 0, 1, 0, 9, 0), 35);
        squaresAre(w, w.sight(3, 0, 1, 0, 1, 0, 9, 0), 35, 36);
        squaresAre(w, w.report(2, 2, 1, 0, 1, 0), 35, 36);
        squaresAre(w, w.report(2, 4, 1, 0, 1, 400));
        w = new Watch();
        w.row(0, 3, 0, 1);
        w.row(1, 1, 0, 1);
        w.row(2, 3, 0, 1);
        squaresAre(w, w.report(0, 2, 1, 1, 0, 100), 32, 33, 34);
    }

    private static void joins() {
        promise = "13 join";
        Watch w = flat(8);
        w.tower(0, 0, 50);
        w.tower(0, 7, 50);
        bearing(w, 0, 10, 1, 1, 20);
        bearing(w, 1, 10, 1, -1, 20);
        bearing(w, 0, 10, 1, 1, 20);
        bearing(w, 0, 11, 0, 1, 0);
        bearing(w, 0, 11, 1, 1, 0);
        w.remark(0);
        no("no fire", w.join(1, 0));
        w.begin(0);
        no("it is in one", w.join(0, 0));
        no("the same tower and minute", w.join(2, 0));
        no("the patch would be empty", w.join(3, 0));
        no("a remark", w.join(5, 0));
        no("nothing", w.join(6, 0));
        no("no place", w.join(60, 0));
        no("no place", w.join(-1, 0));
        no("no fire", w.join(1, 1));
        no("no fire", w.join(1, -1));
        no("no fire", w.join(1, 20));
        no("no fire", w.join(1, 32));
        yes("it fits", w.join(1, 0));
        is("its fire", w.log(1, 4), 0);
        is("two", w.fire(0, 1), 2);
        is("an act", w.count(4), 8);
        patchIs(w, 0, 51, 52, 67, 68);
        yes("another minute", w.join(4, 0));
        patchIs(w, 0, 51, 68);
        reportsJoin();
        goneAndOut();
    }

    private static void reportsJoin() {
        Watch w = flat(8);
        w.report(0, 0, 5, 1, 1, 0);
        w.report(0, 0, 5, 1, 1, 0);
        w.begin(0);
        yes("a caller is no tower", w.join(1, 0));
        w.row(8, 0, 0, 0);
        w.tower(0, 0, 9);
        w.tower(0, 0, 9);
        w.sight(3, 0, 5, 1, 1, 0, 0, 0);
        w.sight(0, 1, 5, 1, 1, 0, 0, 0);
        w.sight(1, 0, 5, 1, 1, 0, 9, 0);
        w.sight(1, 0, 6, 1, 1, 0, 9, 0);
        w.begin(0);
        yes("another tower on the same square", w.join(1, 0));
        no("another kind, but the same tower and minute", w.join(2, 0));
        yes("another minute", w.join(3, 0));
    }

    private static void goneAndOut() {
        Watch w = flat(8);
        w.report(0, 0, 5, 1, 1, 0);
        w.report(0, 0, 5, 1, 1, 0);
        w.begin(0);
        w.apart(0);
        no("GONE", w.join(1, 0));
        w.begin(0);
        w.out(1);
        no("OUT", w.join(1, 1));
        is("none", w.log(1, 4), NONE);
    }

    private static void begins() {
        promise = "14 begin";
        Watch w = flat(3);
        w.report(0, 0, 5, 1, 1, 0);
        w.report(0, 0, 5, -1, 0, 0);
        w.remark(1);
        is("no squares", w.begin(1), NONE);
        is("a remark", w.begin(2), NONE);
        is("nothing", w.begin(3), NONE);
        is("no place", w.begin(60), NONE);
        is("no place", w.begin(-1), NONE);
        is("nothing done", w.count(4), 3);
        is("begin", w.begin(0), 0);
        is("it is in one", w.begin(0), NONE);
        for (int f = 1; f < 20; f++) {
            w.apart(0);
            is("begin", w.begin(0), f);
        }
        w.apart(0);
        is("there were 20", w.begin(0), NONE);
        is("ever", w.count(2), 20);
        yes("undo", w.undo());
        yes("undo", w.undo());
        is("ever", w.count(2), 19);
        is("a 20th again", w.begin(0), 19);
    }

    private static void aparts() {
        promise = "15 apart";
        Watch w = flat(4);
        w.report(0, 0, 5, 1, 1, 100);
        w.report(3, 0, 5, -1, 1, 0);
        no("in none", w.apart(0));
        no("no place", w.apart(-1));
        no("no place", w.apart(60));
        w.begin(0);
        w.join(1, 0);
        patchIs(w, 0, 3, 18, 33);
        yes("the first may leave too", w.apart(0));
        patchIs(w, 0, 3, 18, 33);
        is("in none", w.log(0, 4), NONE);
        is("still burns", w.fire(0, 0), 0);
        yes("the last", w.apart(1));
        is("GONE", w.fire(0, 0), 2);
        patchIs(w, 0);
        no("in none", w.apart(1));
        w.begin(1);
        w.out(1);
        no("OUT", w.apart(1));
    }

    private static void offices() {
        promise = "16 office";
        Watch w = flat(8);
        is("no fire", w.office(), 0);
        w.report(0, 0, 1, 0, 1, 0);
        w.report(7, 0, 1, 0, 1, 0);
        w.report(0, 3, 1, 1, 0, 50);
        w.report(0, 5, 1, 0, 1, 0);
        w.report(7, 7, 1, -1, -1, 0);
        is("no fire", w.office(), 0);
        w.begin(0);
        w.begin(1);
        // 2 has squares of row 7 alone; 3 of row 0 alone; 4 has (0, 0), which 0 has not.
        is("2 and 3 fit one", w.office(), 2);
        is("2", w.log(2, 4), 1);
        is("3", w.log(3, 4), 0);
        is("4", w.log(4, 4), NONE);
        is("acts", w.count(4), 9);
        is("none is left", w.office(), 0);
        yes("the last join is undone alone", w.undo());
        is("3", w.log(3, 4), NONE);
        is("2", w.log(2, 4), 1);
        officeGoesBackToTheFirst();
        officeLeavesTwo();
    }

    private static void officeGoesBackToTheFirst() {
        // Fire 0: rows 0 and 1 wide; fire 1: column 7. Place 2 fits both until place 3 has narrowed fire 0.
        Watch w = flat(8);
        w.report(0, 0, 1, 0, 1, 0);
        w.report(7, 7, 1, -1, 0, 0);
        w.report(0, 6, 1, 0, 1, 0);
        w.report(3, 3, 1, -1, 0, 0);
        w.begin(0);
        w.begin(1);
        is("place 2 fits both", w.log(2, 6), 2);
        is("both are joined", w.office(), 2);
        is("place 3", w.log(3, 4), 0);
        is("place 2", w.log(2, 4), 1);
        yes("the later act", w.undo());
        is("place 2 was the later", w.log(2, 4), NONE);
        is("place 3 stays", w.log(3, 4), 0);
    }

    private static void officeLeavesTwo() {
        Watch w = flat(4);
        w.report(0, 0, 1, 1, 1, 0);
        w.report(0, 0, 1, 1, 1, 0);
        w.report(0, 0, 1, 1, 1, 0);
        w.begin(0);
        w.begin(1);
        is("fits two", w.office(), 0);
        w.out(0);
        is("fits one", w.office(), 1);
        is("that which BURNS", w.log(2, 4), 1);
    }

    private static void outs() {
        promise = "17 out";
        Watch w = flat(4);
        no("none", w.out(0));
        no("none", w.out(-1));
        w.report(0, 0, 1, 1, 1, 0);
        w.begin(0);
        yes("out", w.out(0));
        is("OUT", w.fire(0, 0), 1);
        is("it stays in it", w.log(0, 4), 0);
        is("one", w.fire(0, 1), 1);
        patchIs(w, 0, 17, 34, 51);
        no("twice", w.out(0));
        is("acts", w.count(4), 3);
        w.report(0, 0, 1, 1, 1, 0);
        w.begin(1);
        w.apart(1);
        no("GONE", w.out(1));
        no("none", w.out(2));
        no("none", w.out(20));
    }

    private static void fires() {
        promise = "18 fire";
        Watch w = flat(5);
        is("none", w.fire(0, 0), NONE);
        w.report(0, 0, 1, 0, 1, 0);
        w.report(1, 0, 1, 0, 1, 0);
        w.report(0, 2, 1, 1, 0, 0);
        w.report(4, 2, 1, -1, 0, 0);
        is("0", w.begin(0), 0);
        is("1", w.begin(1), 1);
        is("BURNS", w.fire(0, 0), 0);
        is("what -1", w.fire(0, -1), NONE);
        is("what 5", w.fire(0, 5), NONE);
        is("f -1", w.fire(-1, 0), NONE);
        is("f 2", w.fire(2, 0), NONE);
        w.out(0);
        w.out(1);
        is("AGAIN 1: it has no (0, 2)", w.begin(2), 2);
        is("again", w.fire(2, 4), 1);
        is("of several the latest", w.begin(3), 3);
        is("again", w.fire(3, 4), 1);
        is("not again", w.fire(0, 4), NONE);
        w.apart(2);
        is("GONE", w.fire(2, 0), 2);
        is("GONE's count", w.fire(2, 1), 0);
        is("GONE's patch", w.fire(2, 2), 0);
        is("GONE's middle", w.fire(2, 3), NONE);
        is("GONE is AGAIN still", w.fire(2, 4), 1);
        againIsOfItsBeginning();
    }

    private static void againIsOfItsBeginning() {
        Watch w = flat(5);
        w.report(0, 0, 1, 0, 1, 0);
        w.report(0, 1, 1, 0, 1, 0);
        w.report(0, 0, 1, 1, 0, 0);
        w.begin(0);
        w.begin(1);
        w.out(0);
        is("it went out later", w.fire(1, 4), NONE);
        w.begin(2);
        is("it has none of the patch", w.fire(2, 4), NONE);
        // The patch it had when it went out, not the squares of one of its sightings.
        w = flat(5);
        w.report(0, 0, 1, 0, 1, 0);
        w.report(4, 1, 1, -1, 0, 0);
        w.report(4, 3, 1, -1, 0, 0);
        w.begin(0);
        w.join(1, 0);
        patchIs(w, 0, 1);
        w.out(0);
        w.begin(2);
        is("not AGAIN", w.fire(1, 4), NONE);
    }

    private static void middles() {
        promise = "18 the middle";
        Watch w = flat(5);
        w.report(0, 0, 1, 0, 1, 0);
        w.begin(0);
        is("of 1 to 4 both 2 and 3, the least", w.fire(0, 3), 2);
        is("asked again", w.fire(0, 3), 2);
        w.report(2, 0, 1, 0, 1, 100);
        w.begin(1);
        patchIs(w, 1, 2, 3, 4, 17, 18, 19, 20, 33, 34, 35, 36, 49, 50, 51, 52, 66, 67, 68);
        is("middle", w.fire(1, 3), 35);
        w.report(0, 4, 1, 1, 0, 0);
        w.begin(2);
        is("16 r + 4, r 1 to 4", w.fire(2, 3), 36);
        is("asked again", w.fire(0, 3), 2);
        // The middle is one of the patch: two that lie apart.
        w = flat(5);
        w.square(0, 2, 500, 1);
        w.tower(0, 0, 10);
        w.report(0, 1, 1, 0, 1, 0);
        bearing(w, 0, 1, 0, 1, 0);
        w.begin(1);
        patchIs(w, 0, 1, 2);
        is("the least number", w.fire(0, 3), 1);
        w.out(0);
        is("of OUT too", w.fire(0, 3), 1);
        w = new Watch();
        w.row(0, 16, 0, 1);
        for (int r = 1; r < 4; r++) {
            w.row(r, 1, 0, 1);
        }
        w.row(4, 16, 0, 1);
        w.report(4, 3, 1, -1, 0, 100);
        w.begin(0);
        is("it is of the patch", w.patch(0, 0), 0);
        patchIs(w, 0, 0, 1, 2, 3, 4, 5, 6, 7, 16);
        is("middle", w.fire(0, 3), 3);
    }

    private static List<Integer> squaresOf(Watch w, int i) {
        List<Integer> squares = new ArrayList<>();
        for (int q = w.squares(i, 0); q != NONE; q = w.squares(i, squares.size())) {
            squares.add(q);
        }
        return squares;
    }

    private static List<Integer> patchOf(Watch w, int f) {
        List<Integer> squares = new ArrayList<>();
        for (int q = w.patch(f, 0); q != NONE; q = w.patch(f, squares.size())) {
            squares.add(q);
        }
        return squares;
    }

    private static void patches() {
        promise = "19 patch";
        Watch w = flat(6);
        w.report(0, 0, 1, 1, 1, 50);
        w.report(5, 0, 1, -1, 1, 50);
        is("none", w.patch(0, 0), NONE);
        w.begin(0);
        w.join(1, 0);
        List<Integer> both = squaresOf(w, 0);
        both.retainAll(squaresOf(w, 1));
        is("how many", both.size(), 2 + 5 + 5 + 2);
        patchIs(w, 0, both.stream().mapToInt(q -> q).toArray());
        is("k -1", w.patch(0, -1), NONE);
        is("f -1", w.patch(-1, 0), NONE);
        is("f 1", w.patch(1, 0), NONE);
        is("f 20", w.patch(20, 0), NONE);
    }

    private static void fewests() {
        promise = "20 fewest";
        Watch w = flat(8);
        w.tower(0, 0, 50);
        is("none", w.fewest(0, 9999), 0);
        w.report(0, 0, 1, 0, 1, 0);
        w.report(0, 0, 2, 1, 0, 0);
        w.report(0, 4, 3, 1, 0, 0);
        w.report(4, 0, 4, 0, 1, 0);
        is("one", w.fewest(1, 1), 1);
        is("two apart", w.fewest(1, 2), 2);
        is("pairs that meet: 0 has no (r > 0, 4), 1 no (4, c > 0)", w.fewest(1, 4), 3);
        is("the last two meet", w.fewest(3, 4), 1);
        is("from above to", w.fewest(4, 1), 0);
        is("wide", w.fewest(MIN, MAX), 3);
        w.begin(2);
        is("whatever they are joined to", w.fewest(3, 4), 1);
        for (int n = 0; n < 3; n++) {
            bearing(w, 0, 50, 1, 1, 30);
        }
        is("one tower and minute", w.fewest(50, 50), 3);
        bearing(w, 0, 51, 1, 1, 30);
        is("another minute", w.fewest(50, 51), 3);
        w.remark(50);
        is("a remark is none", w.fewest(50, 50), 3);
        w.report(0, 0, 60, -1, 0, 0);
        is("one has no squares", w.fewest(50, 60), NONE);
        w.clear(w.count(1) - 1);
        for (int n = 0; n < 10; n++) {
            w.report(0, 0, 100, 1, 1, 0);
        }
        is("ten", w.fewest(100, 100), 1);
        w.report(0, 0, 101, 1, 1, 0);
        is("eleven", w.fewest(100, 101), NONE);
        is("still ten", w.fewest(100, 100), 1);
        fewestIsNoGreed();
    }

    private static void fewestIsNoGreed() {
        // Places 0 and 1 meet, but 0 with 2 and 1 with 3 leaves two fires.
        Watch w = flat(8);
        w.report(3, 0, 1, 0, 1, 0);
        w.report(0, 3, 2, 1, 0, 0);
        w.report(0, 6, 3, 1, 0, 0);
        w.report(6, 0, 4, 0, 1, 0);
        is("two", w.fewest(1, 4), 2);
        threePairs();
        is("0 and 1", w.fewest(1, 2), 1);
        is("0, 1 and 2", w.fewest(1, 3), 2);
    }

    private static void threePairs() {
        // Columns 1 to 3 and diagonals that each meet just one of them: 0 with 5, 1 with 4, 2 with 3.
        Watch w = flat(8);
        w.report(1, 1, 1, -1, 0, 0);
        w.report(1, 3, 1, -1, 0, 0);
        w.report(1, 5, 1, -1, 0, 0);
        w.report(0, 6, 1, 0, -1, 0);
        w.report(1, 4, 2, -1, -1, 0);
        w.report(1, 2, 2, -1, -1, 0);
        is("(0, 1), (0, 3), (0, 5) apart, all on row 0", w.fewest(1, 1), 3);
        is("three pairs", w.fewest(1, 2), 3);
        w.report(1, 6, 2, -1, 0, 0);
        is("(0, 6) is of none", w.fewest(1, 2), 4);
    }

    private static void nexts() {
        promise = "21 next";
        Watch w = flat(8);
        w.report(4, 0, 1, 0, 1, 0);
        w.begin(0);
        is("no tower", w.next(0), NONE);
        w = flat(8);
        w.tower(4, 3, 50);
        w.report(4, 0, 1, 0, 1, 0);
        w.begin(0);
        // The patch is (4, 1) to (4, 7): 4 right of the tower, 2 left of it.
        is("to the right", w.next(0), 2);
        is("no fire", w.next(1), NONE);
        is("no fire", w.next(-1), NONE);
        w.out(0);
        is("OUT", w.next(0), NONE);
        w = flat(8);
        w.tower(0, 0, 50);
        w.tower(4, 4, 50);
        w.report(4, 0, 1, 0, 1, 0);
        w.begin(0);
        is("the first of the best: 3 of 7 to the right", w.next(0), 10);
        w.apart(0);
        is("GONE", w.next(0), NONE);
        eachDirection();
        nextAsksSeen();
        nextHasSide41();
    }

    private static void nextHasSide41() {
        // 5 / 12 is above 41 in 100, and so is 7 / 17, as (12, 5) lies by (1, 1): it is in neither.
        Watch w = flat(16);
        w.tower(0, 0, 100);
        w.report(11, 5, 1, 1, 0, 0);
        w.begin(0);
        patchIs(w, 0, 16 * 12 + 5, 16 * 13 + 5, 16 * 14 + 5, 16 * 15 + 5);
        is("down has three, all others none", w.next(0), 4);
        // 2 / 5 is below it: of (5, 2) to (5, 4) the first is down, the others are aslant.
        w = flat(16);
        w.tower(0, 0, 100);
        w.report(5, 1, 1, 0, 1, 0);
        w.report(5, 5, 1, 0, -1, 0);
        w.begin(0);
        w.join(1, 0);
        patchIs(w, 0, 82, 83, 84);
        is("aslant has two", w.next(0), 3);
        mostlyByBearings();
    }

    /** What next() answers against the BEARINGS themselves, each on an object of its own. */
    private static void mostlyByBearings() {
        for (int n = 0; n < 12; n++) {
            int least = 999;
            int due = NONE;
            for (int look = 0; look < 16; look++) {
                int greater = greaterPart(n, look);
                if (greater < least) {
                    least = greater;
                    due = look;
                }
            }
            is("next of " + n, twoTowersAndAFire(n).next(0), due);
        }
    }

    private static Watch twoTowersAndAFire(int n) {
        Watch w = flat(16);
        w.tower(3, 4 + n % 3, 30);
        w.tower(12, 9, 30);
        w.report(n, 2, 1, 3, 7 - n, 30 + 5 * n);
        is("begin", w.begin(0), 0);
        return w;
    }

    private static int greaterPart(int n, int look) {
        int[] downs = {-1, -1, 0, 1, 1, 1, 0, -1};
        int[] rights = {0, 1, 1, 1, 0, -1, -1, -1};
        Watch w = twoTowersAndAFire(n);
        int i = bearing(w, look / 8, 1, downs[look % 8], rights[look % 8], 41);
        List<Integer> has = patchOf(w, 0);
        int whole = has.size();
        has.retainAll(squaresOf(w, i));
        return Math.max(has.size(), whole - has.size());
    }

    private static void eachDirection() {
        int[] downs = {-1, -1, 0, 1, 1, 1, 0, -1};
        int[] rights = {0, 1, 1, 1, 0, -1, -1, -1};
        for (int d = 0; d < 8; d++) {
            Watch w = flat(9);
            w.tower(4, 4, 50);
            // From three behind the tower: two squares behind it, its own, four before it.
            w.report(4 - 3 * downs[d], 4 - 3 * rights[d], 1, downs[d], rights[d], 0);
            w.begin(0);
            is("direction " + d, w.next(0), d);
        }
    }

    private static void nextAsksSeen() {
        Watch w = flat(8);
        w.square(4, 4, 500, 1);
        w.tower(4, 3, 10);
        w.report(4, 0, 1, 0, 1, 0);
        w.begin(0);
        // To the right just (4, 4) is seen, to the left (4, 1) and (4, 2): 5 are left.
        is("to the left", w.next(0), 6);
    }

    private static void crews() {
        promise = "22 crew, 24 place";
        Watch w = flat(3);
        is("missing", w.crew(3, 0), NONE);
        is("missing", w.crew(0, -1), NONE);
        is("none", w.place(0), NONE);
        for (int k = 0; k < 8; k++) {
            is("crew", w.crew(2, 1), k);
            is("place", w.place(k), 33);
        }
        is("there are 8", w.crew(0, 0), NONE);
        is("acts", w.count(4), 8);
        is("k -1", w.place(-1), NONE);
        is("k 8", w.place(8), NONE);
    }

    private static void moves() {
        promise = "23 move";
        Watch w = flat(3);
        w.row(3, 0, 0, 0);
        w.row(4, 2, 0, 1);
        no("no crew", w.move(0, 0, 0));
        w.crew(0, 0);
        yes("move", w.move(0, 2, 2));
        is("place", w.place(0), 34);
        no("missing", w.move(0, 3, 0));
        no("no way", w.move(0, 4, 0));
        no("no crew", w.move(1, 0, 0));
        no("no crew", w.move(-1, 0, 0));
        is("place", w.place(0), 34);
        is("acts", w.count(4), 2);
        yes("to its own", w.move(0, 2, 2));
        is("place", w.place(0), 34);
    }

    private static void minutes() {
        promise = "25 minutes";
        Watch w = flat(3);
        w.square(0, 1, 0, 60);
        w.square(1, 0, 19, 2);
        w.square(1, 1, 50, 3);
        w.square(2, 1, 9, 1);
        w.crew(0, 0);
        is("its own", w.minutes(0, 0, 0), 0);
        is("its minutes", w.minutes(0, 0, 1), 60);
        is("a tenth, cut", w.minutes(0, 1, 0), 2 + 1);
        is("31 higher", w.minutes(0, 1, 1), 3 + 3 + 3);
        is("lower costs nothing more", w.minutes(0, 2, 0), 3 + 1);
        is("9 higher", w.minutes(0, 2, 1), 3 + 1 + 1);
        is("round the dear one", w.minutes(0, 0, 2), 3 + 1 + 1 + 1 + 1 + 1);
        is("missing", w.minutes(0, 3, 0), NONE);
        is("no crew", w.minutes(1, 0, 0), NONE);
        is("no crew", w.minutes(-1, 0, 0), NONE);
        w.row(3, 0, 0, 0);
        w.row(4, 2, 0, 1);
        w.crew(0, 0);
        w.crew(4, 1);
        is("no way", w.minutes(0, 4, 0), NONE);
        is("there", w.minutes(1, 4, 0), 1);
        w = flat(2);
        w.square(0, 1, 500, 1);
        w.crew(0, 1);
        w.crew(0, 0);
        is("down", w.minutes(0, 0, 0), 1);
        is("up", w.minutes(1, 0, 1), 51);
        w.undo();
        w.undo();
        yes("the wood changes", w.square(0, 1, 0, 7));
        w.crew(0, 0);
        is("and the minutes with it", w.minutes(0, 0, 1), 7);
        w.row(0, 2, 0, 9);
        w.crew(0, 0);
        is("and with a new ROW", w.minutes(0, 0, 1), 9);
    }

    private static void ways() {
        promise = "26 way";
        Watch w = flat(4);
        w.crew(2, 2);
        int[] due = {34, 18, 2, 1, 0};
        for (int i = 0; i < due.length; i++) {
            is("way " + i, w.way(0, 0, 0, i), due[i]);
        }
        is("behind its end", w.way(0, 0, 0, 5), NONE);
        is("i -1", w.way(0, 0, 0, -1), NONE);
        is("i MAX", w.way(0, 0, 0, MAX), NONE);
        is("no crew", w.way(1, 0, 0, 0), NONE);
        is("missing", w.way(0, 4, 0, 0), NONE);
        is("its own", w.way(0, 2, 2, 0), 34);
        is("behind its own", w.way(0, 2, 2, 1), NONE);
        int[] toTheCorner = {34, 35, 51};
        for (int i = 0; i < 3; i++) {
            is("right comes ahead of down", w.way(0, 3, 3, i), toTheCorner[i]);
        }
        int[] toTheLeft = {34, 33, 49};
        for (int i = 0; i < 3; i++) {
            is("left comes ahead of down", w.way(0, 3, 1, i), toTheLeft[i]);
        }
        w.row(5, 2, 0, 1);
        w.crew(2, 2);
        is("no way", w.way(0, 5, 0, 0), NONE);
        // The least sum goes ahead of the least number.
        w = flat(3);
        w.square(1, 2, 0, 9);
        w.square(0, 1, 0, 9);
        w.crew(2, 2);
        int[] round = {34, 33, 17, 16, 0};
        for (int i = 0; i < round.length; i++) {
            is("round " + i, w.way(0, 0, 0, i), round[i]);
        }
    }

    private static void sends() {
        promise = "27 send, 28 sent";
        Watch w = flat(8);
        w.row(8, 0, 0, 0);
        w.row(9, 1, 0, 1);
        is("no fire", w.send(), NONE);
        is("none at first", new Watch().sent(0), NONE);
        w.report(0, 0, 1, 0, 1, 0);
        w.report(7, 1, 1, 0, -1, 0);
        w.begin(0);
        is("no crew", w.send(), NONE);
        is("sent", w.sent(0), NONE);
        w.crew(0, 0);
        is("the middle is (0, 4)", w.send(), 4);
        is("sent", w.sent(0), 0);
        is("no such", w.sent(1), NONE);
        is("no such", w.sent(-1), NONE);
        is("no such", w.sent(20), NONE);
        w.begin(1);
        is("more burn than there are crews", w.send(), NONE);
        is("what was told stays", w.sent(0), 0);
        w.crew(9, 0);
        is("it can't be done", w.send(), NONE);
        is("what was told stays", w.sent(0), 0);
        w.crew(6, 0);
        is("both", w.send(), 4 + 1);
        is("sent", w.sent(0), 0);
        is("sent", w.sent(1), 2);
        w.out(0);
        is("OUT needs none", w.send(), 1);
        is("sent anew", w.sent(0), NONE);
        is("sent anew", w.sent(1), 2);
        w.out(1);
        is("none burns", w.send(), NONE);
        is("what was told stays", w.sent(1), 2);
        w.row(10, 0, 0, 0);
        is("behind a new ROW", w.sent(1), NONE);
    }

    private static void sendsByNumbers() {
        promise = "27 of several the least row";
        Watch w = flat(4);
        w.report(0, 0, 1, 0, 1, 0);
        w.begin(0);
        w.report(1, 0, 1, 0, 1, 0);
        w.begin(1);
        w.crew(3, 1);
        w.crew(3, 1);
        w.crew(3, 3);
        w.crew(2, 2);
        w.crew(1, 2);
        // The middles are (0, 2) and (1, 2).
        is("the nearest ones", w.send(), 2);
        is("the first fire's is the least", w.sent(0), 3);
        is("then the next one's", w.sent(1), 4);
        // The nearest crew of fire 0 is taken from it where the sum wants it.
        w = flat(6);
        w.report(0, 0, 1, 0, 1, 0);
        w.begin(0);
        w.report(5, 3, 1, 1, 0, 0);
        w.report(4, 3, 1, 1, 0, 0);
        w.begin(2);
        w.crew(3, 3);
        w.crew(0, 5);
        is("middles (0, 3) and (5, 3)", w.send(), 2 + 2);
        is("0", w.sent(0), 1);
        is("1", w.sent(1), 0);
        eightFires();
    }

    private static void eightFires() {
        // Fire f is on (f, 0) alone; crew k stands on (7 - k, 1).
        Watch w = flat(8);
        for (int f = 0; f < 8; f++) {
            w.report(f, 1, 1, 0, -1, 0);
            is("begin", w.begin(f), f);
            is("crew", w.crew(7 - f, 1), f);
        }
        is("a step each", w.send(), 8);
        for (int f = 0; f < 8; f++) {
            is("sent", w.sent(f), 7 - f);
        }
        w.report(0, 0, 1, 0, 1, 0);
        w.begin(8);
        is("nine burn", w.send(), NONE);
        w.out(2);
        // Fire 8's middle is (0, 4); the crew of (2, 1) is free: of three ways to 12 that with fire 0's least.
        is("eight again", w.send(), 3 + 3 + 1 + 5);
        is("fire 0", w.sent(0), 5);
        is("fire 1", w.sent(1), 6);
        is("fire 2 is OUT", w.sent(2), NONE);
        is("fire 8", w.sent(8), 7);
        // Two steps to the one's left or six to the other's: the row begins with the least.
        w = flat(3);
        w.report(1, 1, 1, 0, -1, 0);
        w.begin(0);
        w.report(1, 1, 1, 0, 1, 0);
        w.begin(1);
        w.crew(2, 2);
        w.crew(0, 1);
        w.crew(2, 1);
        w.crew(0, 1);
        is("(1, 0) and (1, 2)", w.send(), 1 + 2);
        is("0", w.sent(0), 1);
        is("1", w.sent(1), 0);
    }

    private static void blinds() {
        promise = "29 blinds, 30 blind";
        Watch w = flat(3);
        is("no tower", w.blinds(), 9);
        is("the first", w.blind(0), 0);
        is("the last", w.blind(8), 34);
        is("behind", w.blind(9), NONE);
        is("k -1", w.blind(-1), NONE);
        w.tower(0, 0, 0);
        // Flat and on the ground: its own, those beside, (1, 1).
        is("blinds", w.blinds(), 5);
        int[] due = {2, 18, 32, 33, 34};
        for (int k = 0; k < due.length; k++) {
            is("blind " + k, w.blind(k), due[k]);
        }
        w.tower(2, 2, 0);
        is("both", w.blinds(), 2);
        w.tower(1, 1, 1);
        is("all is seen", w.blinds(), 0);
        is("none", w.blind(0), NONE);
        w.square(1, 2, 100, 1);
        is("it changes with the wood", w.blinds(), 0);
        w.row(0, 3, 0, 1);
        is("a new row takes the towers", w.blinds(), 9);
    }

    private static void bests() {
        promise = "31 best";
        Watch w = flat(3);
        is("of several the least", w.best(), 0);
        w.tower(0, 0, 10);
        is("there is none of these", w.best(), NONE);
        // A wall parts the wood: from its top just some of the blind side is seen, from (0, 3) all of it.
        w = flat(5);
        for (int r = 0; r < 5; r++) {
            w.square(r, 2, 100, 1);
        }
        w.tower(2, 0, 10);
        is("behind the wall", w.blinds(), 10);
        is("the first behind the wall", w.best(), 3);
        w.tower(0, 3, 10);
        is("it changes with the towers", w.best(), NONE);
        // 10 high is told: over a hill of 4 at half the way it sees, of 6 it doesn't.
        w = new Watch();
        w.row(0, 3, 0, 1);
        w.square(0, 1, 2, 1);
        is("over it", w.best(), 0);
        w.square(0, 1, 3, 1);
        is("just hidden (2 1/2), so from its top", w.best(), 1);
        // 13 to 0: the line goes out of the middle square at 3 1/4, of 12 to 0 at 3.
        w.square(0, 0, 3, 1);
        is("an eye of 13 sees over 3", w.best(), 0);
        w.square(0, 0, 2, 1);
        is("an eye of 12 doesn't", w.best(), 1);
        w = new Watch();
        w.row(0, 1, 0, 1);
        w.row(2, 1, 0, 1);
        is("each sees itself alone", w.best(), 0);
        w.row(0, 0, 0, 1);
        is("square 0 is missing", w.best(), 32);
        is("square 0 is missing", w.blind(0), 32);
        is("a new object", new Watch().best(), NONE);
    }

    private static void claims() {
        promise = "32 claim, 33 check";
        Watch w = flat(8);
        w.tower(0, 0, 50);
        no("i -1", w.claim(-1, 0));
        no("i 60", w.claim(60, 0));
        no("f -2", w.claim(0, -2));
        no("f 60", w.claim(0, 60));
        yes("with nothing", w.claim(59, 59));
        yes("alone", w.claim(0, NONE));
        is("nothing is no fault", w.check(), NONE);
        is("no act", w.count(4), 0);
        w.report(0, 0, 1, 0, 1, 0);
        w.report(0, 0, 1, 1, 0, 0);
        w.report(4, 4, 1, -1, 0, 0);
        bearing(w, 0, 5, 0, 1, 0);
        bearing(w, 0, 5, 0, 1, 0);
        w.report(0, 0, 9, -1, 0, 0);
        is("all alone", w.check(), NONE);
        for (int i = 0; i < 3; i++) {
            yes("claim", w.claim(i, 3));
        }
        is("0 and 1 have none in common", w.check(), 1);
        w.claim(1, 4);
        is("0 and 2 have (0, 4)", w.check(), NONE);
        w.claim(3, 3);
        is("and 3", w.check(), NONE);
        w.claim(4, 3);
        is("the same tower and minute", w.check(), 4);
        w.claim(4, 5);
        is("another fire", w.check(), NONE);
        w.claim(5, 6);
        is("no squares at all", w.check(), 5);
        w.claim(5, NONE);
        is("alone again", w.check(), NONE);
        w.claim(1, 3);
        is("1", w.check(), 1);
        w.clear(0);
        is("1 with 2: none in common", w.check(), 2);
        w.undo();
        is("the claims stay", w.check(), 1);
        w.clear(0);
        w.remark(0);
        is("a remark counts for nothing", w.check(), 2);
    }

    private static void undos() {
        promise = "34 undo";
        Watch w = flat(6);
        w.tower(0, 0, 50);
        no("none", w.undo());
        bearing(w, 0, 1, 1, 1, 50);
        w.remark(7);
        w.clear(0);
        w.crew(1, 1);
        w.move(0, 2, 2);
        is("acts", w.count(4), 5);
        yes("move", w.undo());
        is("place", w.place(0), 17);
        yes("crew", w.undo());
        is("place", w.place(0), NONE);
        yes("clear", w.undo());
        is("kind", w.log(0, 0), 0);
        is("minute", w.log(0, 1), 1);
        is("squares", w.log(0, 3) > 0 ? 1 : 0, 1);
        yes("remark", w.undo());
        is("nothing", w.log(1, 0), 6);
        yes("sight", w.undo());
        is("nothing", w.log(0, 0), 6);
        no("none is left", w.undo());
        is("count", w.count(4), 0);
        is("the tower is no act", w.count(0), 1);
        undoAsItWas();
    }

    private static void undoAsItWas() {
        // What a cleared sighting was it is again, whatever the wood has become since.
        Watch w = flat(4);
        w.tower(0, 0, 50);
        bearing(w, 0, 1, 0, 1, 0);
        w.clear(0);
        yes("the wood may change", w.square(0, 1, 500, 1));
        yes("clear", w.undo());
        squaresAre(w, 0, 1, 2, 3);
        is("a new one is of the new wood", w.log(bearing(w, 0, 1, 0, 1, 0), 3), 1);
        w = flat(2);
        for (int n = 0; n < 3; n++) {
            w.crew(0, 0);
        }
        no("what did nothing is no act", w.move(0, 5, 5));
        is("acts", w.count(4), 3);
    }

    private static void undosOfFires() {
        promise = "34 undo of fires";
        Watch w = flat(6);
        w.report(0, 0, 1, 1, 1, 60);
        w.report(5, 0, 1, -1, 1, 0);
        w.begin(0);
        int whole = w.fire(0, 2);
        w.join(1, 0);
        int less = w.fire(0, 2);
        w.out(0);
        yes("out", w.undo());
        is("BURNS", w.fire(0, 0), 0);
        yes("join", w.undo());
        is("patch", w.fire(0, 2), whole);
        is("in none", w.log(1, 4), NONE);
        w.join(1, 0);
        w.apart(0);
        w.apart(1);
        is("GONE", w.fire(0, 0), 2);
        yes("apart", w.undo());
        yes("apart", w.undo());
        is("BURNS", w.fire(0, 0), 0);
        is("two", w.fire(0, 1), 2);
        is("patch", w.fire(0, 2), less);
        w.undo();
        yes("begin", w.undo());
        is("ever", w.count(2), 0);
        is("none", w.fire(0, 0), NONE);
        is("in none", w.log(0, 4), NONE);
        is("begin", w.begin(0), 0);
        w.out(0);
        w.report(0, 0, 1, 1, 1, 60);
        w.begin(2);
        is("AGAIN", w.fire(1, 4), 0);
        w.undo();
        w.undo();
        w.undo();
        w.report(0, 0, 1, 1, 1, 60);
        w.begin(2);
        is("not AGAIN", w.fire(1, 4), NONE);
    }

    private static void undosBeyondFifty() {
        promise = "34 the latest 50";
        Watch w = flat(6);
        for (int n = 0; n < 53; n++) {
            w.remark(n);
        }
        is("50", w.count(4), 50);
        yes("undo", w.undo());
        is("49", w.count(4), 49);
        w.remark(99);
        is("50", w.count(4), 50);
        for (int n = 0; n < 50; n++) {
            yes("undo", w.undo());
        }
        no("the first three stay", w.undo());
        is("the first three stay", w.count(1), 3);
        is("the first three stay", w.log(2, 1), 2);
        // The 51st act is a clear, the 52nd a move.
        w = flat(6);
        w.crew(0, 0);
        for (int n = 1; n < 50; n++) {
            w.remark(n);
        }
        w.clear(3);
        w.move(0, 5, 5);
        w.undo();
        is("move", w.place(0), 0);
        w.undo();
        is("clear", w.log(3, 1), 4);
        w.move(0, 5, 5);
        w.undo();
        is("move", w.place(0), 0);
        // The office's joins are acts each.
        w = flat(2);
        for (int n = 0; n < 60; n++) {
            w.report(0, 0, 1, 1, 1, 0);
        }
        w.begin(0);
        is("office", w.office(), 59);
        is("50", w.count(4), 50);
        for (int n = 0; n < 50; n++) {
            w.undo();
        }
        no("undo", w.undo());
        is("ten are in it", w.fire(0, 1), 10);
    }

    private static void counts() {
        promise = "35 count";
        Watch w = busy();
        int[] due = {1, 2, 1, 1, 4, 16};
        for (int what = 0; what < due.length; what++) {
            is("count(" + what + ")", w.count(what), due[what]);
        }
        is("count(-1)", w.count(-1), NONE);
        is("count(6)", w.count(6), NONE);
        w.apart(0);
        is("fires ever", w.count(2), 1);
        w.clear(0);
        w.clear(1);
        is("places", w.count(1), 0);
    }

    private static final int[] EDGES = {MIN, MIN + 1, -17, -1, 0, 1, 2, 15, 16, 59, 60, 255, 256, MAX - 1, MAX};

    /** No call may throw, whatever its arguments are. */
    private static void anyArguments() {
        promise = "any arguments";
        try {
            for (int a : EDGES) {
                for (int b : EDGES) {
                    Watch w = busy();
                    askAll(w, a, b, 1);
                    askAll(w, a, 1, b);
                    askAll(w, 1, a, b);
                    askAll(new Watch(), a, b, 1);
                }
            }
        } catch (RuntimeException e) {
            yes("nothing is thrown, but " + e, false);
        }
    }

    private static void askAll(Watch w, int a, int b, int c) {
        w.see(a, b, c);
        w.hidden(a, b, c);
        w.log(a, b);
        w.squares(a, b);
        w.fire(a, b);
        w.patch(a, b);
        w.fewest(a, b);
        w.next(a);
        w.place(a);
        w.minutes(a, b, c);
        w.way(a, b, c, a);
        w.way(0, b, c, a);
        w.sent(a);
        w.blind(a);
        w.claim(a, b);
        w.sight(a, b, c, a, b, c, a, b);
        w.sight(2, 0, 1, 1, 1, a, b, c);
        w.report(a, b, c, a, b, c);
        w.report(1, 1, 1, a, b, c);
        w.clear(a);
        w.join(a, b);
        w.begin(a);
        w.apart(a);
        w.out(a);
        w.crew(a, b);
        w.move(a, b, c);
        w.send();
        w.best();
        w.check();
        w.office();
        w.undo();
        w.count(a);
        w.tower(a, b, c);
        w.square(a, b, c, a);
        w.row(a, b, c, a);
    }
}
