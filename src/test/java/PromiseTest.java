/** Each promise of the document by hand: ordinary inputs, the edges it names, wrong inputs. */
public final class PromiseTest {
    private static final int BAD = -1, NOT = -2, FULL = -3, NONE = -4, NULL = -11, CAST = -12, INDEX = -13, SIZE = -14;
    private static final int LOWEST = Integer.MIN_VALUE, HIGHEST = Integer.MAX_VALUE;
    private static final int WATER = 2, TROUGH = 3, WEAR = 4, SPLICED = 5, KNOWN = 6;

    private static String part = "";

    private PromiseTest() {
    }

    private static void due(String call, long got, long want) {
        Due.is(part + ": " + call, got, want);
    }

    private static int write(WellTurns x, String text) {
        for (int p = 0; p < text.length(); p++) {
            x.type(text.charAt(p));
        }
        return x.caravan();
    }

    private static WellTurns camp(String text) {
        WellTurns x = new WellTurns();
        write(x, text);
        return x;
    }

    /** What count tells, held against a row. */
    private static void counts(WellTurns x, int... want) {
        for (int what = 0; what < want.length; what++) {
            due("count(" + what + ")", x.count(what), want[what]);
        }
    }

    private static void beasts(WellTurns x, int what, int... want) {
        for (int b = 0; b < want.length; b++) {
            due("of(" + b + ", " + what + ")", x.of(b, what), want[b]);
        }
    }

    private static void line(WellTurns x, int... want) {
        for (int k = 0; k < want.length; k++) {
            due("turn(" + k + ")", x.turn(k), want[k]);
        }
    }

    public static void main(String[] args) {
        part = "promise 1"; aNewObject();
        part = "promise 2"; beast();
        part = "promise 3"; of(); swollen();
        part = "promise 4"; well();
        part = "promise 5"; pull();
        part = "promise 6"; turn();
        part = "promise 7"; type();
        part = "promise 8"; caravan(); faults();
        part = "promise 9"; count();
        part = "promise 10"; minutes(); bucketDrawn(); places(); latestMinute();
        part = "promise 11"; drift();
        part = "promise 12"; undo(); undoKnows();
        part = "promise 13"; seed();
        part = "promise 14"; water();
        part = "promise 15"; done();
        part = "promise 16"; all();
        part = "promise 17"; height();
        part = "promise 18"; pulls();
        part = "promise 19"; waits();
        part = "promise 20"; least();
        part = "promise 21"; both();
        part = "promise 22"; wholly();
        part = "promise 23"; drank();
        part = "promise 24"; holds();
        part = "promise 25"; image();
        part = "promise 26"; restore();
        part = "promise 27"; buckets(); bucketsRefused();
        part = "promise 28"; film();
        part = "promise 29"; sheet();
        part = "promise 30"; drop();
        part = "promise 31"; item();
        part = "promise 32"; copy();
        Due.end();
    }

    private static void aNewObject() {
        WellTurns x = new WellTurns();
        counts(x, 0, 0, 30, 0, 0, 0, 0, 0, 0, 4, 10, 4, 3, 0, 0, NONE);
        due("restore()", x.restore(), NONE);
        due("undo()", x.undo(), NONE);
        due("caravan()", x.caravan(), -20);
        for (int s = 0; s < 4; s++) {
            due("drop(" + s + ")", x.drop(s), NULL);
        }
        due("seed(5)", x.seed(5), 1);
        due("WellTurns.SIZE", WellTurns.SIZE, SIZE);
    }

    private static void beast() {
        WellTurns x = new WellTurns();
        for (int b = 0; b < 6; b++) {
            due("beast", x.beast(b % 4, 1 + b, b % 2), b);
        }
        x.minutes(3);
        int[][] wrong = {{-1, 1, 0}, {4, 1, 0}, {0, 0, 0}, {0, 10, 0}, {0, 1, -1}, {0, 1, 2}, {LOWEST, HIGHEST, 9}};
        for (int[] w : wrong) {
            due("beast, wrong", x.beast(w[0], w[1], w[2]), BAD);
        }
        due("count(6) behind what is refused", x.count(KNOWN), 3);
        due("count(0)", x.count(0), 6);
        due("the seventh", x.beast(3, 9, 1), 6);
        due("a new BEAST leaves nothing to be UNDONE", x.count(KNOWN), 0);
        due("THE MINUTE stays", x.count(1), 3);
        due("the eighth", x.beast(0, 1, 0), FULL);
        due("the eighth, wrong", x.beast(0, 1, 2), BAD);
        due("count(0)", x.count(0), 7);
        beasts(x, 0, 0, 1, 2, 3, 0, 1, 3);
        beasts(x, 1, 1, 2, 3, 4, 5, 6, 9);
        beasts(x, 2, 0, 1, 0, 1, 0, 1, 1);
    }

    private static void of() {
        WellTurns x = camp("60,0;p2,m3b,y1,g4b,p5");
        beasts(x, 0, 0, 1, 2, 3, 0);
        beasts(x, 1, 2, 3, 1, 4, 5);
        beasts(x, 2, 0, 1, 0, 1, 0);
        beasts(x, 3, 6, 14, 3, 17, 15);
        beasts(x, 6, 0, 0, 0, 0, 0);
        beasts(x, 8, 4, 4, 2, 8, 4);
        x.well(3, 9);
        x.pull(4);
        x.minutes(3);
        // 9 a MINUTE: 4 4 1 | 2 4 2, 1 is left | 4 0 6: GREEDY is the third from then on
        beasts(x, 4, 6, 12, 3, 6, 0);
        beasts(x, 5, 0, 0, 0, 0, 3);
        beasts(x, 3, 6, 14, 3, 17, 16);
        beasts(x, 6, 1, 0, 1, 0, 0);
        due("of(-1, 0)", x.of(-1, 0), BAD);
        due("of(5, 0)", x.of(5, 0), BAD);
        due("of(0, -1)", x.of(0, -1), BAD);
        due("of(0, 9)", x.of(0, 9), BAD);
        due("of(lowest, 0)", x.of(LOWEST, 0), BAD);
        due("of(highest, 0)", x.of(HIGHEST, 0), BAD);
        due("of nobody", new WellTurns().of(0, 0), BAD);
    }

    private static void swollen() {
        WellTurns x = camp("60,0;p1,g9");
        x.well(3, 9);
        x.pull(0);
        x.minutes(1);
        beasts(x, 7, 0, 0);
        x.minutes(1);
        beasts(x, 4, 0, 16);
        for (int left = 5; left >= 0; left--) {
            beasts(x, 7, 0, left);
            due("DRUNK while SWOLLEN", x.of(1, 4), 16);
            due("drinks while SWOLLEN", x.of(1, 8), 8);
            due("gallons", x.minutes(1), left == 0 ? 8 : 0);
        }
        due("it begins anew", x.of(1, 7), 0);
        x.minutes(1);
        due("DRUNK, all it NEEDS", x.of(1, 4), 32);
        due("SATED and SWOLLEN", x.of(1, 7), 5);
        // a MINUTE without drinking parts the MINUTES: by PULLING, by an empty TROUGH
        WellTurns y = camp("60,0;p9,g9");
        y.well(3, 9);
        y.pull(0);
        y.minutes(1);
        y.pull(1);
        y.minutes(1);
        y.pull(0);
        y.minutes(1);
        due("DRUNK 8, PULLED, DRUNK 8", y.of(1, 7), 0);
        due("DRUNK", y.of(1, 4), 16);
        y.minutes(1);
        due("DRUNK 8 and 8", y.of(1, 7), 5);
        WellTurns z = camp("60,0;g9");
        z.well(3, 9);
        for (int k = 0; k < 4; k++) {
            due("4 a MINUTE", z.minutes(1), k < 3 ? 4 : 0);
        }
        due("12 in three MINUTES", z.of(0, 7), 4);
        WellTurns w = camp("60,0;g9");
        w.well(3, 9);
        w.minutes(2);
        w.well(5, 60);
        due("nothing is drawn", w.minutes(1), 0);
        w.well(5, 0);
        w.minutes(1);
        due("8, nothing, 4", w.of(0, 7), 0);
        w.minutes(2);
        due("12 again", w.of(0, 7), 5);
        WellTurns u = camp("60,0;g9");
        u.well(3, 9);
        u.minutes(2);
        u.well(3, 7);
        u.minutes(1);
        due("11 in three MINUTES", u.of(0, 4), 11);
        due("not yet", u.of(0, 7), 0);
        u.well(3, 2);
        due("12 in four", u.minutes(1), 1);
        due("SWOLLEN", u.of(0, 7), 5);
        WellTurns v = camp("60,0;m9");
        v.well(3, 9);
        v.minutes(8);
        due("MILK is not SWOLLEN", v.of(0, 7), 0);
        due("DRUNK", v.of(0, 4), 32);
    }

    private static void well() {
        WellTurns x = new WellTurns();
        int[] first = {30, 4, 10, 4, 3, 0, 0};
        int[] low = {0, 0, 1, 1, 1, 0, 0};
        int[] high = {60, 20, 40, 9, 7, 60, 3};
        for (int what = 0; what < 7; what++) {
            String call = "well(" + what + ", ..)";
            due(call + " below", x.well(what, low[what] - 1), BAD);
            due(call + " above", x.well(what, high[what] + 1), BAD);
            due(call + " lowest", x.well(what, LOWEST), BAD);
            due(call + " highest", x.well(what, HIGHEST), BAD);
            due(call + " was", x.well(what, low[what]), first[what]);
            due(call + " was low", x.well(what, high[what]), low[what]);
            due(call + " was high", x.well(what, low[what]), high[what]);
        }
        due("well(-1, 1)", x.well(-1, 1), BAD);
        due("well(7, 1)", x.well(7, 1), BAD);
        due("well(highest, 1)", x.well(HIGHEST, 1), BAD);
        counts(x, 0, 0, 0, 0, 0, 0, 0, 0, 0, 0, 1, 1, 1, 0, 0, NONE);
        due("MUD above WATER", x.well(1, 20), 0);
        counts(x, 0, 0, 0, 0, 0, 0, 0, 0, 0, 20);
    }

    private static void pull() {
        WellTurns x = camp("50,4;p2,p1");
        due("pull(-1)", x.pull(-1), BAD);
        due("pull(2)", x.pull(2), BAD);
        due("pull(-5)", x.pull(-5), BAD);
        due("pull(highest)", x.pull(HIGHEST), BAD);
        due("pull(1)", x.pull(1), NONE);
        due("pull(0)", x.pull(0), 1);
        due("pull(2)", x.pull(2), BAD);
        due("count(15)", x.count(15), 0);
        due("minutes(1)", x.minutes(1), 3);
        beasts(x, 4, 0, 3);
        beasts(x, 5, 1, 0);
        due("pull(NONE)", x.pull(NONE), 0);
        due("pull(NONE)", x.pull(NONE), NONE);
        due("nobody comes", new WellTurns().pull(0), BAD);
    }

    private static void turn() {
        WellTurns x = camp("50,4;p2,g5,p5b,m2b,y9,m5b,p2");
        line(x, 0, 1, 2, 3, 4, 5, 6);
        x.well(6, 1);
        line(x, 4, 1, 2, 5, 0, 3, 6);
        x.well(6, 2);
        line(x, 1, 3, 5, 0, 2, 4, 6);
        x.well(6, 3);
        line(x, 0, 2, 1, 3, 4, 5, 6);
        x.pull(2);
        x.minutes(10);
        line(x, 0, 2, 1, 3, 4, 5, 6);
        due("turn(-1)", x.turn(-1), BAD);
        due("turn(7)", x.turn(7), BAD);
        due("turn(highest)", x.turn(HIGHEST), BAD);
        due("turn(0) of nobody", new WellTurns().turn(0), BAD);
        write(x, "1,1;p1b,p2b,p3b,y4");
        line(x, 3, 0, 1, 2);
        due("turn(4)", x.turn(4), BAD);
        x.beast(0, 1, 0);
        line(x, 3, 0, 4, 1, 2);
        write(x, "1,1;p1,p2,p3,p4b");
        line(x, 0, 3, 1, 2);
    }

    private static void type() {
        WellTurns x = new WellTurns();
        due("type(31)", x.type(31), BAD);
        due("type(127)", x.type(127), BAD);
        due("type(-1)", x.type(-1), BAD);
        due("type(lowest)", x.type(LOWEST), BAD);
        due("type(32)", x.type(32), 1);
        due("type(126)", x.type(126), 2);
        for (int k = 3; k <= 60; k++) {
            due("type(49)", x.type(49), k);
        }
        due("the 61st", x.type(49), FULL);
        due("the 61st, wrong", x.type(127), BAD);
        due("caravan()", x.caravan(), -21);
        due("type(49)", x.type(49), 1);
    }

    private static void caravan() {
        WellTurns x = new WellTurns();
        x.well(2, 7);
        x.well(3, 9);
        x.well(4, 2);
        x.well(5, 8);
        x.well(6, 2);
        x.beast(0, 9, 0);
        x.beast(3, 9, 0);
        x.pull(0);
        x.seed(77);
        x.minutes(12);
        due("caravan", write(x, "50,4;p2,m3b"), 2);
        counts(x, 2, 0, 50, 0, 0, 0, 0, 0, 0, 4, 7, 9, 2, 8, 2, NONE);
        beasts(x, 0, 0, 1);
        beasts(x, 1, 2, 3);
        beasts(x, 2, 0, 1);
        beasts(x, 4, 0, 0);
        beasts(x, 5, 0, 0);
        beasts(x, 7, 0, 0);
        due("of(2, 0)", x.of(2, 0), BAD);
        due("THE DRAW stays", x.seed(1), 77);
        due("edges", write(x, "0,0;g9"), 1);
        counts(x, 1, 0, 0, 0, 0, 0, 0, 0, 0, 0);
        due("edges", write(x, "60,20;p1,m2,y3,g4,p5b,m6b,y7b"), 7);
        counts(x, 7, 0, 60, 0, 0, 0, 0, 0, 0, 20);
        due("nought ahead", write(x, "00,07;p1"), 1);
        counts(x, 1, 0, 0, 0, 0, 0, 0, 0, 0, 7);
        due("blanks", write(x, "  6  ,  20 ; p  1  b ,  y 2   "), 2);
        counts(x, 2, 0, 6, 0, 0, 0, 0, 0, 0, 20);
        beasts(x, 2, 1, 0);
        // a rope that broke is whole again, a SWOLLEN one gone
        WellTurns y = broken();
        due("caravan", write(y, "50,4;g2"), 1);
        counts(y, 1, 0, 50, 0, 0, 0, 0, 0, 0, 4);
    }

    private static void faults() {
        WellTurns x = camp("50,4;p2,m3b");
        x.pull(1);
        x.minutes(4);
        String[] texts = {"", "   ", "x", "6", "61,", "61x", "99", "600,1;p1", "6 0,1;p1", "60 ", "60;", "60,", "60,21;p1",
            "60, 21", "60,200;p1", "60,2 0;p1", "60,20", "60,20,", "60,20;", "60,20; ", "60,20;x", "60,20;P1", "60,20;p",
            "60,20;p0", "60,20;p 0", "60,20;pb", "60,20;p12", "60,20;p1;", "60,20;p1,", "60,20;p1,,", "60,20;p1 , x",
            "60,20;p1bb", "60,20;p1b1", "60,20;bp1", "60,20;p1p1", "1,1;p1,p1,p1,p1,p1,p1,p1,p1", "1,1;p1,p1,p1,p1,p1,p1,p1b,",
            ",1;p1", "-1,1;p1", "1,-1;p1", "  61,1;p1", "1.5,1;p1"};
        int[] places = {0, 3, 0, 1, 0, 0, 0, 2, 2, 3, 2, 3, 3,
            4, 5, 5, 5, 5, 6, 7, 6, 6, 7,
            7, 8, 7, 8, 8, 9, 9, 11,
            9, 9, 6, 8, 24, 25,
            0, 0, 2, 2, 1};
        for (int k = 0; k < texts.length; k++) {
            due("caravan of '" + texts[k] + "'", write(x, texts[k]), -20 - places[k]);
        }
        counts(x, 2, 4, x.water(0), x.count(TROUGH), 4, 0, 4, x.count(7), x.count(8), 4, 10, 4, 3, 0, 0, 1);
        due("all stays", x.of(1, 5), 4);
        due("THE TAPE is empty", x.type(48), 1);
    }

    private static void count() {
        WellTurns x = camp("60,0;p1,p9,m1b");
        x.well(2, 40);
        x.well(3, 7);
        x.well(4, 2);
        x.well(5, 9);
        x.well(6, 3);
        x.pull(1);
        x.minutes(2);
        // by turns 0 2 1: 7 drawn, 3 and 4 drunk; 7 drawn, 4 drunk, 3 are left
        counts(x, 3, 2, 46, 3, 2, 0, 2, 5, 11, 0, 40, 7, 2, 9, 3, 1);
        due("count(-1)", x.count(-1), BAD);
        due("count(16)", x.count(16), BAD);
        due("count(highest)", x.count(HIGHEST), BAD);
        due("count(lowest)", x.count(LOWEST), BAD);
        x.minutes(9);
        due("8 are known", x.count(KNOWN), 8);
    }

    private static void minutes() {
        WellTurns x = camp("50,4;p2");
        due("minutes(1)", x.minutes(1), 2);
        counts(x, 1, 1, 49, 0, 1, 0, 1, 0, 2);
        due("minutes(2)", x.minutes(2), 4);
        counts(x, 1, 3, 47, 0, 3, 0, 3, 1, 6);
        due("minutes(1)", x.minutes(1), 0);
        counts(x, 1, 4, 46, 2, 4, 0, 4, 1, 6);
        due("minutes(0)", x.minutes(0), BAD);
        due("minutes(61)", x.minutes(61), BAD);
        due("minutes(-1)", x.minutes(-1), BAD);
        due("minutes(highest)", x.minutes(HIGHEST), BAD);
        counts(x, 1, 4, 46, 2, 4, 0, 4, 1, 6);
        due("minutes(60)", x.minutes(60), 0);
        due("THE TROUGH is full", x.count(TROUGH), 24);
        due("THE MINUTE", x.count(1), 64);
    }

    private static void bucketDrawn() {
        // MUD is left, a bucket of nothing wears nothing
        WellTurns x = camp("5,4;p9");
        x.well(2, 40);
        x.well(3, 9);
        due("2 above MUD", x.minutes(1), 2);
        due("1 above MUD", x.minutes(1), 1);
        counts(x, 1, 2, 4, 0, 2);
        x.well(1, 20);
        due("MUD above WATER", x.minutes(3), 0);
        counts(x, 1, 5, 7, 0, 2);
        // as much as THE TROUGH has room for; then PULLER pulls nothing
        WellTurns y = camp("60,0;p1");
        y.well(3, 9);
        y.pull(0);
        y.minutes(2);
        counts(y, 1, 2, 42, 18, 2);
        y.minutes(1);
        counts(y, 1, 3, 37, 24, 3);
        beasts(y, 3, 4);
        y.minutes(7);
        counts(y, 1, 10, 46, 24, 3);
        beasts(y, 5, 3);
        // FROM, and half of an odd bucket
        WellTurns z = camp("50,4;p9");
        z.well(5, 52);
        due("51 is below 52", z.minutes(2), 0);
        counts(z, 1, 2, 51, 0, 0);
        z.well(5, 51);
        z.well(3, 7);
        due("51 is no less than 51", z.minutes(1), 3);
        counts(z, 1, 3, 48, 0, 1);
        z.well(3, 1);
        z.well(5, 0);
        due("half of 1", z.minutes(1), 0);
        counts(z, 1, 4, 49, 0, 1);
    }

    private static void places() {
        WellTurns x = camp("60,0;p9,y9,p9,p9");
        x.well(3, 9);
        x.pull(3);
        x.well(4, 1);
        due("one place", x.minutes(1), 4);
        x.well(4, 2);
        due("two places", x.minutes(1), 6);
        beasts(x, 4, 8, 2, 0, 0);
        x.well(4, 7);
        due("seven places, 8 and 9 in THE TROUGH", x.minutes(1), 10);
        beasts(x, 4, 12, 4, 4, 0);
        // by LAW, of what is in THE TROUGH
        WellTurns y = camp("60,0;p1,p9b,m9,p5b");
        y.pull(0);
        y.well(6, 2);
        y.minutes(1);
        beasts(y, 4, 0, 0, 4, 0);
        y.well(6, 3);
        y.minutes(1);
        beasts(y, 4, 0, 4, 4, 0);
        y.well(6, 1);
        y.minutes(1);
        beasts(y, 4, 0, 8, 4, 0);
        y.well(3, 5);
        y.minutes(1);
        beasts(y, 4, 0, 12, 5, 0);
    }

    private static void latestMinute() {
        WellTurns x = new WellTurns();
        for (int k = 0; k < 166; k++) {
            x.minutes(60);
        }
        due("THE MINUTE", x.count(1), 9960);
        due("minutes(40)", x.minutes(40), FULL);
        due("drift(40)", x.drift(40), FULL);
        due("minutes(61)", x.minutes(61), BAD);
        due("drift(61)", x.drift(61), BAD);
        due("THE MINUTE", x.count(1), 9960);
        due("minutes(38)", x.minutes(38), 0);
        due("drift(1)", x.drift(1), 0);
        due("THE MINUTE", x.count(1), 9999);
        due("minutes(1)", x.minutes(1), FULL);
        due("drift(1)", x.drift(1), FULL);
        due("foretold all the same", x.water(240), 51);
        x.undo();
        due("minutes(1)", x.minutes(1), 0);
    }

    /** The least seed whose next DRAW leaves this over by 100. */
    private static int seedFor(long over) {
        int v = 0;
        while (next(v) / 65536 % 100 != over) {
            v++;
        }
        return v;
    }

    private static long next(long draw) {
        return (draw * 1103515245L + 12345L) % 2147483648L;
    }

    /** WEAR 9, and then a rope broken in a DRIFT of one MINUTE. */
    private static WellTurns broken() {
        WellTurns x = camp("60,0;p9,g9,p9");
        x.pull(0);
        x.minutes(9);
        x.seed(seedFor(0));
        due("drift(1)", x.drift(1), 1);
        return x;
    }

    private static void drift() {
        WellTurns x = broken();
        counts(x, 3, 10, x.count(WATER), x.count(TROUGH), 0, 3, 8);
        for (int left = 2; left >= 0; left--) {
            int before = x.count(WATER);
            due("drift(1)", x.drift(1), 0);
            due("SPLICED", x.count(SPLICED), left);
            due("WEAR", x.count(WEAR), 0);
            due("WATER only rises", x.count(WATER), before + (60 - before) / 10);
        }
        due("THE DRAW stays while nothing is drawn", x.seed(3), next(seedFor(0)));
        x.minutes(1);
        due("WEAR", x.count(WEAR), 1);
        due("THE DRAW stays in plain MINUTES", x.seed(3), 3);
        // a tenth of WEAR: nothing below 10, 1 from 10 on
        WellTurns y = camp("60,0;p9,p9,p9");
        y.pull(0);
        y.minutes(8);
        y.seed(seedFor(0));
        due("WEAR 9", y.drift(1), 0);
        due("THE DRAW", y.seed(seedFor(1)), next(seedFor(0)));
        due("1 is not less than 1", y.drift(1), 0);
        due("WEAR", y.count(WEAR), 10);
        due("THE DRAW", y.seed(0), next(seedFor(1)));
        due("drift(0)", y.drift(0), BAD);
        due("drift(61)", y.drift(61), BAD);
        due("drift(lowest)", y.drift(LOWEST), BAD);
        due("THE DRAW", y.seed(HIGHEST), 0);
        y.drift(1);
        due("the highest seed", y.seed(0), next(HIGHEST));
        // the rope that breaks is SPLICED in plain MINUTES and in what is foretold
        WellTurns z = broken();
        due("foretold", z.water(3), z.count(WATER) + risen(z.count(WATER), 3));
        int before = z.count(WATER);
        z.minutes(3);
        due("played", z.count(WATER), before + risen(before, 3));
        due("WEAR", z.count(WEAR), 0);
    }

    private static int risen(int water, int minutes) {
        int more = 0;
        for (int k = 0; k < minutes; k++) {
            more += (60 - water - more) / 10;
        }
        return more;
    }

    private static void undo() {
        WellTurns x = camp("60,0;p1,g9");
        x.well(3, 9);
        x.pull(0);
        x.minutes(2);
        due("SWOLLEN", x.of(1, 7), 5);
        x.seed(9);
        x.well(0, 3);
        x.well(1, 2);
        x.well(6, 1);
        x.pull(NONE);
        due("undo()", x.undo(), 1);
        counts(x, 2, 1, 51, 1, 1, 0, 1, 0, 8, 2, 10, 9, 3, 0, 1, NONE);
        beasts(x, 4, 0, 8);
        beasts(x, 5, 1, 0);
        beasts(x, 7, 0, 0);
        due("THE DRAW", x.seed(4), 1);
        x.pull(0);
        due("drinks on", x.minutes(1), 8);
        due("SWOLLEN again", x.of(1, 7), 5);
        due("undo()", x.undo(), 1);
        due("undo()", x.undo(), 0);
        counts(x, 2, 0, 60, 0, 0, 0, 0, 0, 0);
        due("undo()", x.undo(), NONE);
        due("the run of drinking is UNDONE too", x.minutes(1), 8);
        due("SWOLLEN", x.of(1, 7), 0);
        WellTurns y = broken();
        y.minutes(1);
        due("undo()", y.undo(), 7);
        due("SPLICED", y.count(SPLICED), 3);
        due("undo()", y.undo(), 6);
        due("SPLICED", y.count(SPLICED), 0);
        due("WEAR", y.count(WEAR), 9);
        due("THE DRAW", y.seed(0), seedFor(0));
    }

    private static void undoKnows() {
        WellTurns x = camp("50,4;p2");
        x.minutes(20);
        for (int left = 7; left >= 0; left--) {
            due("undo()", x.undo(), left);
        }
        due("undo()", x.undo(), NONE);
        due("THE MINUTE", x.count(1), 12);
        x.minutes(3);
        due("count(6)", x.count(KNOWN), 3);
        due("a FAULT leaves them", write(x, "x"), -20);
        due("count(6)", x.count(KNOWN), 3);
        write(x, "1,1;p1");
        due("a CARAVAN leaves none", x.undo(), NONE);
        x.drift(2);
        due("of a DRIFT", x.undo(), 1);
        x.beast(0, 1, 0);
        due("a new BEAST leaves none", x.undo(), NONE);
        due("THE MINUTE", x.count(1), 1);
    }

    private static void seed() {
        WellTurns x = new WellTurns();
        due("seed(-1)", x.seed(-1), BAD);
        due("seed(lowest)", x.seed(LOWEST), BAD);
        due("seed(0)", x.seed(0), 1);
        due("seed(highest)", x.seed(HIGHEST), 0);
        due("seed(7)", x.seed(7), HIGHEST);
        due("drift(1)", x.drift(1), 0);
        due("seed(7)", x.seed(7), next(7));
    }

    private static void water() {
        WellTurns x = camp("50,4;p2,m3b,y1,g4b,p5");
        int[] n = {0, 1, 2, 5, 10, 30, 100, 240};
        int[] want = {50, 49, 48, 45, 40, 40, 51, 51};
        for (int k = 0; k < n.length; k++) {
            due("water(" + n[k] + ")", x.water(n[k]), want[k]);
        }
        due("water(-1)", x.water(-1), BAD);
        due("water(241)", x.water(241), BAD);
        due("water(highest)", x.water(HIGHEST), BAD);
        counts(x, 5, 0, 50, 0, 0, 0, 0, 0, 0);
        x.minutes(30);
        due("water(30), played", x.count(WATER), 40);
    }

    private static void done() {
        WellTurns x = camp("50,4;p2,m3b,y1,g4b,p5");
        int[] want = {3, 10, 12, 25, 28};
        for (int b = 0; b < 5; b++) {
            due("done(" + b + ")", x.done(b), want[b]);
        }
        due("done(-1)", x.done(-1), BAD);
        due("done(5)", x.done(5), BAD);
        due("done(highest)", x.done(HIGHEST), BAD);
        x.pull(4);
        due("PULLER", x.done(4), NONE);
        due("done(3)", x.done(3), 15);
        x.pull(NONE);
        counts(x, 5, 0, 50, 0, 0, 0, 0, 0, 0);
        x.minutes(3);
        due("done already", x.done(0), 0);
        due("from now", x.done(1), 7);
        x.pull(0);
        due("PULLER that is SATED now", x.done(0), 0);
        // 1 a MINUTE, 240 of them at the most
        WellTurns y = camp("60,0;p9,p9,p9,p9,p9,p9,p9");
        y.well(3, 2);
        due("done(6)", y.done(6), 189);
        y.well(3, 1);
        due("never", y.done(0), NONE);
        due("nobody", new WellTurns().done(0), BAD);
        due("behind 240", late(1).done(6), 240);
        due("behind 241", late(0).done(6), NONE);
    }

    /** 221 gallons are NEEDED, and a MINUTE gives 1 of them, once WATER has risen by 1 each to above MUD. */
    private static WellTurns late(int water) {
        WellTurns x = camp(water + ",20;m9,m9,m9,m9,m9,m9,m8");
        x.well(2, 40);
        return x;
    }

    private static void all() {
        WellTurns x = camp("50,4;p2,m3b,y1,g4b,p5");
        due("all()", x.all(), 28);
        x.pull(4);
        due("all but PULLER", x.all(), 15);
        due("nobody", new WellTurns().all(), 0);
        WellTurns y = camp("50,4;p9");
        y.pull(0);
        due("PULLER alone", y.all(), 0);
        y.pull(NONE);
        y.well(3, 1);
        due("never", y.all(), NONE);
        counts(y, 1, 0, 50, 0, 0, 0, 0, 0, 0);
        due("behind 240", late(1).all(), 240);
        due("behind 241", late(0).all(), NONE);
    }

    private static void height() {
        WellTurns x = camp("50,4;p2");
        due("height(0)", x.height(0), 0);
        due("height(1)", x.height(1), 3);
        x.well(5, 52);
        due("all()", x.all(), NONE);
        due("height(0)", x.height(0), 0);
        due("height(1)", x.height(1), 3);
        due("FROM stays", x.count(13), 52);
        WellTurns y = camp("50,4;p2,m3b,y1,g4b,p5");
        y.pull(4);
        due("FROM above 0 is sooner", y.height(0), 34);
        due("when", y.height(1), 12);
        y.well(5, 34);
        due("all()", y.all(), 12);
        y.well(5, 33);
        Due.holds("later by 33", y.all() > 12);
        x.well(3, 1);
        due("nothing is drawn", x.height(0), NONE);
        due("nothing is drawn", x.height(1), NONE);
        due("nothing is drawn, wrong", x.height(2), BAD);
        due("height(-1)", x.height(-1), BAD);
        due("height(2)", y.height(2), BAD);
        due("nobody", new WellTurns().height(0), 0);
        due("nobody", new WellTurns().height(1), 0);
        due("behind 240", late(1).height(1), 240);
        due("behind 241", late(0).height(1), NONE);
    }

    private static void pulls() {
        WellTurns x = camp("50,4;p2,p1");
        due("pulls(0)", x.pulls(0), 0);
        due("pulls(1)", x.pulls(1), 1);
        due("PULLER stays", x.count(15), NONE);
        x.pull(1);
        due("whoever PULLS now", x.pulls(0), 0);
        due("PULLER stays", x.count(15), 1);
        WellTurns y = camp("50,4;p1,p1");
        due("of like ones the first", y.pulls(0), 0);
        due("when", y.pulls(1), 1);
        y.minutes(3);
        due("nobody is the first", y.pulls(0), 7);
        due("when", y.pulls(1), 0);
        WellTurns z = camp("21,4;p1,p1");
        z.well(2, 40);
        z.well(5, 60);
        due("nothing is drawn", z.pulls(0), NONE);
        due("nothing is drawn", z.pulls(1), NONE);
        due("nothing is drawn, wrong", z.pulls(-1), BAD);
        due("pulls(2)", z.pulls(2), BAD);
        due("pulls(lowest)", z.pulls(LOWEST), BAD);
        WellTurns w = camp("50,4;p9");
        due("one alone", w.pulls(0), 0);
        due("one alone", w.pulls(1), 0);
        due("nobody", new WellTurns().pulls(0), 7);
        due("nobody", new WellTurns().pulls(1), 0);
    }

    private static void waits() {
        WellTurns x = camp("50,4;p2,m3b,y1,g4b,p5");
        int[][] want = {{43, 62, 62, 43}, {35, 44, 28, 35}};
        for (int herd = 0; herd < 2; herd++) {
            for (int law = 0; law < 4; law++) {
                due("waits(" + herd + ", " + law + ")", x.waits(herd, law), want[herd][law]);
            }
        }
        due("LAW stays", x.count(14), 0);
        due("waits(-1, 0)", x.waits(-1, 0), BAD);
        due("waits(2, 0)", x.waits(2, 0), BAD);
        due("waits(0, -1)", x.waits(0, -1), BAD);
        due("waits(0, 4)", x.waits(0, 4), BAD);
        WellTurns y = camp("50,4;p9b,p1");
        due("waits(1, 0)", y.waits(1, 0), 14);
        due("waits(0, 0)", y.waits(0, 0), 15);
        due("waits(0, 3)", y.waits(0, 3), 2);
        due("waits(1, 3)", y.waits(1, 3), 15);
        y.well(3, 1);
        due("never", y.waits(0, 0), 240);
        y.pull(1);
        due("PULLER", y.waits(0, 0), 0);
        due("1 a MINUTE", y.waits(1, 0), 27);
        due("nobody", new WellTurns().waits(1, 3), 0);
        y.minutes(27);
        due("SATED now", y.waits(1, 2), 0);
    }

    private static void least() {
        WellTurns x = camp("50,4;p2,m3b,y1,g4b,p5");
        due("least(0)", x.least(0), 0);
        due("least(1)", x.least(1), 78);
        WellTurns y = camp("50,4;p9b,p1");
        y.well(6, 1);
        due("least(0)", y.least(0), 3);
        due("least(1)", y.least(1), 17);
        due("LAW stays", y.count(14), 1);
        due("least(-1)", y.least(-1), BAD);
        due("least(2)", y.least(2), BAD);
        WellTurns z = camp("50,4;p9,m1");
        // 8 gallons of MILK ahead: 4 and 18 MINUTES
        due("MILK ahead", z.least(0), 2);
        due("MILK ahead", z.least(1), 22);
        due("nobody", new WellTurns().least(0), 0);
        due("nobody", new WellTurns().least(1), 0);
    }

    private static void both() {
        WellTurns x = camp("50,4;p2,m3b,y1,g4b,p5");
        due("both(0)", x.both(0), 0);
        due("both(1)", x.both(1), 43);
        x.pull(4);
        due("both(0)", x.both(0), 1);
        due("the greater of the two", x.both(1), Math.max(x.waits(0, 1), x.waits(1, 1)));
        due("least(0)", x.least(0), 0);
        WellTurns y = camp("50,4;p9b,p1");
        due("of like ones the first", y.both(0), 0);
        due("15 and 14, 2 and 15", y.both(1), 15);
        due("both(-1)", y.both(-1), BAD);
        due("both(2)", y.both(2), BAD);
        due("nobody", new WellTurns().both(0), 0);
        due("nobody", new WellTurns().both(1), 0);
    }

    private static void whollyIs(WellTurns x, int n, int set, int many) {
        due("wholly(" + n + ", 0)", x.wholly(n, 0), set);
        due("wholly(" + n + ", 1)", x.wholly(n, 1), many);
    }

    private static void wholly() {
        WellTurns x = camp("50,4;p2,p1");
        whollyIs(x, 0, 0, 0);
        whollyIs(x, 1, 0, 0);
        whollyIs(x, 2, 2, 1);
        whollyIs(x, 3, 1, 1);
        whollyIs(x, 4, 1, 1);
        whollyIs(x, 5, 3, 2);
        whollyIs(x, 240, 3, 2);
        due("wholly(-1, 0)", x.wholly(-1, 0), BAD);
        due("wholly(241, 0)", x.wholly(241, 0), BAD);
        due("wholly(1, -1)", x.wholly(1, -1), BAD);
        due("wholly(1, 2)", x.wholly(1, 2), BAD);
        counts(x, 2, 0, 50, 0, 0, 0, 0, 0, 0);
        x.pull(1);
        whollyIs(x, 60, 1, 1);
        x.pull(0);
        x.minutes(1);
        // the second is SATED; it PULLS: a third bucket makes it NEED more
        x.pull(1);
        whollyIs(x, 0, 0, 1);
        whollyIs(x, 1, 0, 1);
        whollyIs(x, 2, 1, 2);
        whollyIs(x, 3, 1, 1);
        x.pull(NONE);
        x.minutes(20);
        whollyIs(x, 0, 0, 2);
        whollyIs(x, 240, 0, 2);
        whollyIs(new WellTurns(), 7, 0, 0);
        WellTurns y = camp("50,4;p2,m3b,y1,g4b,p5");
        whollyIs(y, 6, 5, 2);
        whollyIs(y, 12, 7, 3);
        whollyIs(y, 20, 23, 4);
        whollyIs(y, 60, 31, 5);
    }

    private static void drankIs(WellTurns x, int v, int many, int first) {
        due("drank(" + v + ", 0)", x.drank(v, 0), many);
        due("drank(" + v + ", 1)", x.drank(v, 1), first);
    }

    private static void drank() {
        WellTurns x = camp("50,4;p1,p2,p3");
        drankIs(x, 0, 1, 0);
        drankIs(x, 1, 0, NONE);
        drankIs(x, 3, 1, 1);
        drankIs(x, 9, 2, 3);
        drankIs(x, 18, 1, 7);
        drankIs(x, 19, 0, NONE);
        drankIs(x, 999, 0, NONE);
        due("drank(-1, 0)", x.drank(-1, 0), BAD);
        due("drank(1000, 0)", x.drank(1000, 0), BAD);
        due("drank(1, -1)", x.drank(1, -1), BAD);
        due("drank(1, 2)", x.drank(1, 2), BAD);
        x.pull(1);
        drankIs(x, 9, 2, 3);
        x.minutes(1);
        // the first is SATED, the third has 1 of 9
        drankIs(x, 0, 2, 0);
        drankIs(x, 8, 2, 4);
        drankIs(x, 14, 2, 6);
        drankIs(new WellTurns(), 0, 1, 0);
        drankIs(new WellTurns(), 1, 0, NONE);
    }

    private static void holds() {
        WellTurns x = new WellTurns();
        int[] n = {0, 9, 10, 11, 19, 20, 30, 100, 240};
        int[] want = {1000000, 1000000, 990000, 980100, 904380, 886292, 716771, 8603, 0};
        for (int k = 0; k < n.length; k++) {
            due("holds(" + n[k] + ")", x.holds(n[k]), want[k]);
        }
        due("holds(-1)", x.holds(-1), BAD);
        due("holds(241)", x.holds(241), BAD);
        due("holds(highest)", x.holds(HIGHEST), BAD);
        due("WEAR stays", x.count(WEAR), 0);
        x.minutes(9);
        due("WEAR", x.count(WEAR), 9);
        due("holds(0)", x.holds(0), 1000000);
        due("holds(1)", x.holds(1), 990000);
        due("holds(2)", x.holds(2), 980100);
        write(x, "60,0;p9,p9,p9");
        due("a new rope", x.holds(9), 1000000);
    }

    private static void image() {
        WellTurns x = camp("50,4;p2,p3b");
        x.well(6, 1);
        x.pull(1);
        x.seed(55);
        x.minutes(3);
        due("image()", x.image(), 1);
        counts(x, 2, 3, x.water(0), x.count(TROUGH), 3, 0, 3);
        int water = x.count(WATER);
        x.minutes(1);
        due("a later one takes its place", x.image(), 1);
        x.minutes(5);
        due("restore()", x.restore(), 1);
        due("THE MINUTE", x.count(1), 4);
        due("undo()", x.undo(), 3);
        due("WATER", x.count(WATER), water);
    }

    private static void restore() {
        WellTurns x = broken();
        due("none", x.restore(), NONE);
        x.well(2, 9);
        x.well(3, 8);
        x.well(4, 2);
        x.well(5, 7);
        x.well(6, 2);
        x.minutes(1);
        x.image();
        int[] was = new int[16];
        for (int what = 0; what < 16; what++) {
            was[what] = x.count(what);
        }
        int swollen = x.of(1, 7);
        int ahead = x.water(60);
        x.type(49);
        x.sheet(1, 2, 5);
        write(x, "1;");
        write(x, "9,9;y1b");
        for (int what = 1; what < 7; what++) {
            x.well(what, 1);
        }
        x.seed(3);
        x.pull(0);
        x.minutes(9);
        x.type(54);
        due("restore()", x.restore(), 1);
        counts(x, was);
        beasts(x, 0, 0, 3, 0);
        beasts(x, 1, 9, 9, 9);
        beasts(x, 2, 0, 0, 0);
        due("SWOLLEN", x.of(1, 7), swollen);
        due("what is foretold", x.water(60), ahead);
        due("THE TAPE stays", x.type(48), 2);
        due("SHEETS stay", x.drop(1), 5);
        due("THE DRAW", x.seed(3), next(seedFor(0)));
        due("undo()", x.undo(), 7);
        due("undo()", x.undo(), 6);
        due("WEAR ahead of the break", x.count(WEAR), 9);
        due("restore() again", x.restore(), 1);
        due("undo()", x.undo(), 7);
    }

    private static void row(WellTurns x, int sheet, int lane, int... items) {
        due("sheet", x.sheet(sheet, lane, items.length), items.length);
        for (int k = 0; k < items.length; k++) {
            due("item", x.item(sheet, lane, k, items[k]), 1);
        }
    }

    private static void buckets() {
        WellTurns x = camp("50,4;p9");
        for (int lane = 0; lane < 4; lane++) {
            row(x, 0, lane, 1, 49, 0, 50, 2, 47, 2, 48);
            due("any", x.buckets(0, lane, 2, 1), 1022);
            due("51 less 2", x.buckets(0, lane, 0, 1), 1 << 4 | 1 << 5);
            due("both heights", x.buckets(0, lane, 0, 2), 1 << 4 | 1 << 5);
            due("unlike ones", x.buckets(0, lane, 0, 3), 0);
            due("two heights at once", x.buckets(0, lane, 4, 2), 0);
            due("the last", x.buckets(0, lane, 6, 1), 1 << 4 | 1 << 5);
        }
        row(x, 1, 3, 1, 47, 1, 51);
        due("8, 9", x.buckets(1, 3, 0, 1), 1 << 8 | 1 << 9);
        due("1", x.buckets(1, 3, 2, 1), 1 << 1);
        due("BUCKET stays", x.count(11), 4);
        x.beast(0, 1, 0);
        x.pull(1);
        due("one PULLS", x.buckets(1, 3, 0, 1), 1 << 4);
        row(x, 2, 1, 240, x.water(240), 0, 50, 1, 47, 1, 47, 1, 47, 1, 47, 1, 47, 1, 47);
        due("eight heights", x.buckets(2, 1, 0, 8), 1 << 4);
        x.minutes(1);
        row(x, 2, 1, 0, 47);
        due("from now", x.buckets(2, 1, 0, 1), 1022);
    }

    private static void bucketsRefused() {
        WellTurns x = camp("50,4;p9");
        row(x, 0, 2, 0, 50, 241, 50, 0, 61, -1, 50, 0, -1);
        due("0, 50", x.buckets(0, 2, 0, 1), 1022);
        for (int k = 1; k < 5; k++) {
            due("an item is not as told", x.buckets(0, 2, 2 * k, 1), NOT);
        }
        due("the second is not as told", x.buckets(0, 2, 0, 2), NOT);
        due("sheet -1", x.buckets(-1, 2, 0, 1), BAD);
        due("sheet 4", x.buckets(4, 2, 0, 1), BAD);
        due("lane -1", x.buckets(0, -1, 0, 1), BAD);
        due("lane 4", x.buckets(0, 4, 0, 1), BAD);
        due("n 0", x.buckets(0, 2, 0, 0), BAD);
        due("n 9", x.buckets(0, 2, 0, 9), BAD);
        due("n highest", x.buckets(0, 2, 0, HIGHEST), BAD);
        due("nothing, n 9", x.buckets(1, 2, 0, 9), BAD);
        due("nothing", x.buckets(1, 2, -1, 1), NULL);
        due("another LANE", x.buckets(0, 3, -1, 1), CAST);
        due("i -1", x.buckets(0, 2, -1, 1), INDEX);
        due("i 9", x.buckets(0, 2, 9, 1), INDEX);
        due("i 8", x.buckets(0, 2, 8, 1), NOT);
        due("i highest", x.buckets(0, 2, HIGHEST, 8), INDEX);
        due("i lowest", x.buckets(0, 2, LOWEST, 8), INDEX);
        due("n 6", x.buckets(0, 2, 0, 6), INDEX);
        x.sheet(0, 3, 2);
        x.item(0, 3, 0, 1L << 32);
        due("a long is not cut", x.buckets(0, 3, 0, 1), NOT);
        x.item(0, 3, 0, 0);
        x.item(0, 3, 1, 50 + (1L << 32));
        due("a long is not cut", x.buckets(0, 3, 0, 1), NOT);
    }

    private static void film() {
        WellTurns x = camp("50,4;p2,m3b,y1,g4b,p5");
        x.sheet(0, 0, 24);
        x.sheet(1, 0, 2);
        due("film(24, ..)", x.film(24, 0, 0, 0), 24);
        for (int k = 0; k < 24; k++) {
            x.item(1, 0, 0, 0);
            x.copy(0, k, 1, 1, 1);
            x.image();
            x.well(0, x.water(k + 1));
            due("WATER behind " + (k + 1), x.buckets(1, 0, 0, 1), 1022);
            x.restore();
        }
        for (int lane = 1; lane < 4; lane++) {
            x.sheet(2, lane, 3);
            due("film(1, ..)", x.film(1, 2, lane, 2), 1);
            due("item", x.item(2, lane, 1, 1), 1);
            due("buckets", x.buckets(2, lane, 1, 1), 1 << 4 | 1 << 5);
            due("the others stay", x.item(2, lane, 2, 50), 1);
            due("the others stay", x.copy(2, 0, 2, 1, 1), 1);
            due("the others stay", x.buckets(2, lane, 1, 1), 1022);
        }
        counts(x, 5, 0, 50, 0, 0, 0, 0, 0, 0);
        due("n 0", x.film(0, 0, 0, 0), BAD);
        due("n 25", x.film(25, 0, 0, 0), BAD);
        due("n lowest", x.film(LOWEST, 0, 0, 0), BAD);
        due("sheet 4", x.film(1, 4, 0, 0), BAD);
        due("sheet -1", x.film(1, -1, 0, 0), BAD);
        due("lane 4", x.film(1, 0, 4, 0), BAD);
        due("lane -1", x.film(1, 0, -1, 0), BAD);
        due("nothing", x.film(1, 3, 0, -1), NULL);
        due("another LANE", x.film(1, 0, 1, -1), CAST);
        due("i -1", x.film(1, 0, 0, -1), INDEX);
        due("i 24", x.film(1, 0, 0, 24), INDEX);
        due("i 1", x.film(24, 0, 0, 1), INDEX);
        due("i highest", x.film(24, 0, 0, HIGHEST), INDEX);
    }

    private static void sheet() {
        WellTurns x = camp("50,4;p9");
        for (int s = 0; s < 4; s++) {
            due("sheet", x.sheet(s, s, 24), 24);
            due("item", x.item(s, s, 23, 1), 1);
        }
        due("sheet(0, 1, 0)", x.sheet(0, 1, 0), 0);
        due("of LANE 1 then", x.item(0, 0, 0, 1), CAST);
        due("empty then", x.item(0, 1, 0, 1), INDEX);
        row(x, 1, 1, 1, 49);
        due("sheet(1, 1, 2)", x.sheet(1, 1, 2), 2);
        x.item(1, 1, 1, 50);
        due("a new row holds 0", x.buckets(1, 1, 0, 1), 1022);
        due("sheet(-1, ..)", x.sheet(-1, 0, -1), BAD);
        due("sheet(4, ..)", x.sheet(4, 0, -1), BAD);
        due("lane -1", x.sheet(0, -1, -1), BAD);
        due("lane 4", x.sheet(0, 4, -1), BAD);
        due("n 25", x.sheet(0, 0, 25), BAD);
        due("n highest", x.sheet(0, 0, HIGHEST), BAD);
        due("n -1", x.sheet(1, 0, -1), SIZE);
        due("n lowest", x.sheet(1, 0, LOWEST), SIZE);
        due("what is refused changes nothing", x.buckets(1, 1, 0, 1), 1022);
    }

    private static void drop() {
        WellTurns x = new WellTurns();
        x.sheet(0, 0, 24);
        x.sheet(3, 2, 0);
        due("drop(-1)", x.drop(-1), BAD);
        due("drop(4)", x.drop(4), BAD);
        due("drop(highest)", x.drop(HIGHEST), BAD);
        due("drop(1)", x.drop(1), NULL);
        due("drop(0)", x.drop(0), 24);
        due("drop(0)", x.drop(0), NULL);
        due("item", x.item(0, 0, 0, 1), NULL);
        due("drop(3)", x.drop(3), 0);
        due("drop(3)", x.drop(3), NULL);
    }

    private static void item() {
        WellTurns x = camp("50,4;p9");
        long[] above = {1L << 8, 1L << 16, 1L << 32};
        for (int lane = 0; lane < 4; lane++) {
            x.sheet(0, lane, 2);
            due("item", x.item(0, lane, 0, 1), 1);
            due("item", x.item(0, lane, 1, 49), 1);
            due("buckets", x.buckets(0, lane, 0, 1), 1 << 4 | 1 << 5);
            for (int k = 0; k < 3; k++) {
                due("item", x.item(0, lane, 0, 1 + above[k]), 1);
                due("its lowest bits, LANE " + lane, x.buckets(0, lane, 0, 1), lane <= k ? 1 << 4 | 1 << 5 : NOT);
            }
            due("below 0", x.item(0, lane, 0, -1), 1);
            due("below 0", x.buckets(0, lane, 0, 1), NOT);
            due("240", x.item(0, lane, 0, 240), 1);
            due("240 is below 0 as a byte", x.buckets(0, lane, 0, 1), lane == 0 ? NOT : 0);
            due("i -1", x.item(0, lane, -1, 1), INDEX);
            due("i 2", x.item(0, lane, 2, 1), INDEX);
            due("i highest", x.item(0, lane, HIGHEST, 1), INDEX);
            due("i lowest", x.item(0, lane, LOWEST, 1), INDEX);
            due("another LANE", x.item(0, (lane + 1) % 4, -1, 1), CAST);
            due("nothing", x.item(1, lane, -1, 1), NULL);
        }
        due("sheet -1", x.item(-1, 0, 0, 1), BAD);
        due("sheet 4", x.item(4, 0, 0, 1), BAD);
        due("lane -1", x.item(1, -1, 0, 1), BAD);
        due("lane 4", x.item(1, 4, 0, 1), BAD);
    }

    private static void copy() {
        WellTurns x = camp("50,4;p9");
        int seen = 1 << 4 | 1 << 5;
        for (int lane = 0; lane < 4; lane++) {
            row(x, 0, lane, 9, 1, 49, 9);
            row(x, 1, lane, 9, 9, 9, 9, 9);
            due("to another", x.copy(0, 1, 1, 3, 2), 2);
            due("there", x.buckets(1, lane, 3, 1), seen);
            due("and here", x.buckets(0, lane, 1, 1), seen);
            due("up by one", x.copy(0, 0, 0, 1, 3), 3);
            due("as if all were taken ahead", x.buckets(0, lane, 2, 1), seen);
            due("down by one", x.copy(0, 1, 0, 0, 3), 3);
            due("as if all were taken ahead", x.buckets(0, lane, 1, 1), seen);
            due("none", x.copy(0, 4, 1, 5, 0), 0);
            due("all", x.copy(0, 0, 1, 1, 4), 4);
            due("there", x.buckets(1, lane, 2, 1), seen);
        }
        x.sheet(2, 0, 4);
        due("from -1", x.copy(-1, 0, 0, 0, 1), BAD);
        due("from 4", x.copy(4, 0, 0, 0, 1), BAD);
        due("to -1", x.copy(0, 0, -1, 0, 1), BAD);
        due("to 4", x.copy(3, 0, 4, 0, 1), BAD);
        due("from nothing", x.copy(3, -1, 0, 0, 1), NULL);
        due("to nothing", x.copy(0, -1, 3, 0, 1), NULL);
        due("unlike LANES", x.copy(0, -1, 2, 0, 1), CAST);
        int[][] wrong = {{-1, 0, 1}, {0, -1, 1}, {0, 0, -1}, {4, 0, 1}, {0, 5, 1}, {0, 0, 5}, {1, 0, 4}, {0, 2, 4}, {5, 0, 0},
            {0, 6, 0}, {HIGHEST, 0, 1}, {0, HIGHEST, 1}, {0, 0, HIGHEST}, {HIGHEST, HIGHEST, HIGHEST}, {LOWEST, 0, 1},
            {0, LOWEST, 1}, {0, 0, LOWEST}};
        for (int[] w : wrong) {
            due("copy(0, " + w[0] + ", 1, " + w[1] + ", " + w[2] + ")", x.copy(0, w[0], 1, w[1], w[2]), INDEX);
        }
        due("what is refused changes nothing", x.buckets(1, 3, 2, 1), seen);
    }
}
