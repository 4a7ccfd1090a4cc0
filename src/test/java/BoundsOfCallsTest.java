import java.io.IOException;
import java.util.List;

/** Each sentence of the promises 1 to 32 that names a boundary case, by a test of its own. */
public final class BoundsOfCallsTest {
    private static final int BAD = -1, NOT = -2, FULL = -3, NONE = -4, NULL = -11, CAST = -12, INDEX = -13, SIZE = -14;
    private static final int LOWEST = Integer.MIN_VALUE, HIGHEST = Integer.MAX_VALUE;
    private static final int WATER = 0, MUD = 1, RISE = 2, BUCKET = 3, PLACES = 4, FROM = 5, LAW = 6;
    private static final int THE_MINUTE = 1, THE_WATER = 2, KNOWN = 6;
    private static final int ALL_SIZES = 1022;
    /** Seven of all KINDS, four of HERD 1. */
    private static final String SEVEN = "50,4;p1,m2b,y3,g4b,p5,m6b,y7b";

    private static int promise = 0;

    private BoundsOfCallsTest() {
    }

    public static void main(String[] args) throws IOException {
        aNewObject();
        beast();
        of();
        well();
        pull();
        turn();
        type();
        caravan();
        count();
        minutes();
        drift();
        undo();
        seed();
        water();
        done();
        all();
        height();
        pulls();
        waits();
        least();
        both();
        wholly();
        drank();
        holds();
        image();
        restore();
        buckets();
        bucketsRefused();
        film();
        filmRefused();
        sheet();
        drop();
        item();
        itemRefused();
        copy();
        copyRefused();
        for (int p = 1; p <= 32 && args.length > 0; p++) {
            Doc.compare("## Promise " + p + ":");
        }
        Due.end();
    }

    private static void says(int number, String words) {
        promise = number;
        says(words);
    }

    private static void says(String words) {
        Doc.says("## Promise " + promise + ":", words);
    }

    private static void aNewObject() {
        says(1, "A well, nobody");
        Well x = new Well();
        int[] first = {0, 0, 30, 0, 0, 0, 0, 0, 0, 4, 10, 4, 3, 0, 0, NONE};
        for (int what = 0; what < first.length; what++) {
            x.count(what).is(first[what]);
        }
        x.of(0, 0).is(BAD).turn(0).is(BAD).pull(0).is(BAD).done(0).is(BAD).undo().is(NONE).restore().is(NONE).caravan().is(-20);
        x.type('1').is(1).drop(0).is(NULL).drop(1).is(NULL).drop(2).is(NULL).drop(3).is(NULL).seed(0).is(1);
        // objects have nothing in common
        Well other = new Well().beast(0, 1, 0).is(0).minutes(3).is(3).sheet(0, 0, 1).is(1).type('1').is(1);
        x.count(0).is(0).count(THE_MINUTE).is(0).drop(0).is(NULL).type('1').is(2);
        other.type('1').is(2);
    }

    private static void beast() {
        says(2, "A BEAST: its number");
        Well x = new Well();
        for (int b = 0; b < 7; b++) {
            x.beast(b % 4, 9 - b, b % 2).is(b).count(0).is(b + 1);
        }
        says("BAD");
        for (Well y : new Well[] {new Well(), Well.at(SEVEN)}) {
            y.beast(-1, 1, 0).is(BAD).beast(4, 1, 0).is(BAD).beast(0, 0, 0).is(BAD).beast(0, 10, 0).is(BAD).beast(0, -1, 0).is(BAD);
            y.beast(0, 1, -1).is(BAD).beast(0, 1, 2).is(BAD).beast(LOWEST, 1, 0).is(BAD).beast(HIGHEST, 1, 0).is(BAD);
            y.beast(0, LOWEST, 0).is(BAD).beast(0, HIGHEST, 0).is(BAD).beast(0, 1, LOWEST).is(BAD).beast(0, 1, HIGHEST).is(BAD);
        }
        new Well().beast(0, 1, 0).is(0).beast(3, 9, 1).is(1).beast(0, 9, 1).is(2).beast(3, 1, 0).is(3);
        says("FULL: 7");
        x.beast(0, 1, 0).is(FULL).beast(3, 9, 1).is(FULL).count(0).is(7).of(6, 1).is(3).of(7, 0).is(BAD);
        Well.at("1,1;p1,p1,p1,p1,p1,p1").beast(0, 1, 0).is(6).beast(0, 1, 0).is(FULL);
        // a CARAVAN makes room again
        x.reads("1,1;p1").is(1).beast(0, 1, 0).is(1);
    }

    private static void of() {
        says(3, "Of a BEAST: 0 KIND, 1 DAYS, 2 HERD, 3 what it NEEDS, 4 has DRUNK, 5 has PULLED, 6 whether SATED (1, 0), 7 MINUTES for which it is SWOLLEN yet, 8 what it drinks in a MINUTE");
        Well x = Well.at("60,0;p1,m9b,y9,g9b,g1,y1,m1b");
        x.each(0, 0, 1, 2, 3, 3, 2, 1).each(1, 1, 9, 9, 9, 1, 1, 1).each(2, 0, 1, 0, 1, 0, 0, 1).each(3, 3, 32, 27, 32, 8, 3, 8);
        x.each(4, 0, 0, 0, 0, 0, 0, 0).each(5, 0, 0, 0, 0, 0, 0, 0).each(6, 0, 0, 0, 0, 0, 0, 0).each(7, 0, 0, 0, 0, 0, 0, 0);
        x.each(8, 4, 4, 2, 8, 8, 2, 4);
        Well y = Well.at("60,0;p1,g9,p1").well(BUCKET, 9).pull(0).minutes(2).each(4, 0, 16, 2).each(5, 2, 0, 0).each(6, 0, 0, 0).each(7, 0, 5, 0);
        y.minutes(1).each(3, 4, 32, 3).each(4, 0, 16, 3).each(5, 3, 0, 0).each(6, 0, 0, 1).each(7, 0, 4, 0);
        says("BAD");
        x.of(-1, 0).is(BAD).of(7, 0).is(BAD).of(LOWEST, 0).is(BAD).of(HIGHEST, 0).is(BAD).of(NONE, 0).is(BAD);
        x.of(0, -1).is(BAD).of(0, 9).is(BAD).of(6, LOWEST).is(BAD).of(6, HIGHEST).is(BAD).of(6, 8).is(4);
        new Well().of(0, 0).is(BAD).beast(0, 1, 0).is(0).of(0, 0).is(0).of(1, 0).is(BAD);
        Well.at(SEVEN).reads("1,1;p1").is(1).of(1, 0).is(BAD);
    }

    private static void well() {
        says(4, "THE WELL: 0 WATER, 1 MUD, 2 RISE, 3 BUCKET, 4 PLACES, 5 FROM, 6 LAW becomes v, as told (LAW 0 .. 3): what it was");
        int[] low = {0, 0, 1, 1, 1, 0, 0};
        int[] high = {60, 20, 40, 9, 7, 60, 3};
        int[] first = {30, 4, 10, 4, 3, 0, 0};
        int[] told = {2, 9, 10, 11, 12, 13, 14};
        Well x = new Well();
        for (int what = 0; what < 7; what++) {
            x.well(what, low[what]).is(first[what]).count(told[what]).is(low[what]);
            x.well(what, high[what]).is(low[what]).count(told[what]).is(high[what]).well(what, high[what]).is(high[what]);
        }
        // each is set alone
        Well y = new Well();
        for (int what = 0; what < 7; what++) {
            y.well(what, what == LAW ? 3 : 6).is(first[what]);
            for (int other = what + 1; other < 7; other++) {
                y.count(told[other]).is(first[other]);
            }
        }
        y.count(2).is(6).count(9).is(6).count(10).is(6).count(11).is(6).count(12).is(6).count(13).is(6).count(14).is(3);
        says("BAD (MUD may be above WATER)");
        Well z = new Well();
        for (int what = 0; what < 7; what++) {
            z.well(what, low[what] - 1).is(BAD).well(what, high[what] + 1).is(BAD).well(what, LOWEST).is(BAD).well(what, HIGHEST).is(BAD);
            z.count(told[what]).is(first[what]);
        }
        z.well(-1, 1).is(BAD).well(7, 1).is(BAD).well(LOWEST, 1).is(BAD).well(HIGHEST, 1).is(BAD);
        z.well(WATER, 0).is(30).well(MUD, 20).is(4).count(THE_WATER).is(0).count(9).is(20);
        z.well(MUD, 20).is(20).well(WATER, 19).is(0).count(9).is(20).count(THE_WATER).is(19);
    }

    private static void pull() {
        says(5, "One PULLS (NONE: nobody): who did (NONE)");
        Well x = Well.at(SEVEN).pull(NONE).is(NONE).pull(0).is(NONE).count(15).is(0).pull(6).is(0).pull(6).is(6).pull(NONE).is(6).count(15).is(NONE);
        says("BAD");
        x.pull(-1).is(BAD).pull(-3).is(BAD).pull(-5).is(BAD).pull(7).is(BAD).pull(LOWEST).is(BAD).pull(HIGHEST).is(BAD).count(15).is(NONE);
        new Well().pull(0).is(BAD).beast(0, 1, 0).is(0).pull(1).is(BAD).pull(0).is(NONE).pull(1).is(BAD).pull(NONE).is(0);
        // a CARAVAN of fewer: who PULLED is nobody
        x.pull(6).reads("1,1;p1").is(1).count(15).is(NONE).pull(6).is(BAD).minutes(3).is(3).pull(0).is(NONE);
    }

    private static void turn() {
        says(6, "Who is the k-th (0 on) by LAW, of all");
        Well x = Well.at(SEVEN).line(0, 1, 2, 3, 4, 5, 6).well(LAW, 1).line(6, 5, 4, 3, 2, 1, 0).well(LAW, 2).line(1, 3, 5, 0, 2, 4, 6);
        x.well(LAW, 3).line(0, 1, 2, 3, 4, 5, 6);
        // of all: SATED, SWOLLEN ones, PULLER too
        Well y = Well.at("60,0;p1,g9,p1").well(BUCKET, 9).minutes(5).pull(2).line(0, 1, 2).of(0, 6).is(1);
        y.minutes(60).line(0, 1, 2);
        says("BAD");
        x.turn(-1).is(BAD).turn(7).is(BAD).turn(LOWEST).is(BAD).turn(HIGHEST).is(BAD);
        new Well().turn(0).is(BAD);
        y.turn(3).is(BAD).turn(2).is(2).reads("1,1;p1").turn(1).is(BAD).turn(0).is(0);
    }

    private static void type() {
        says(7, "One letter more behind THE TAPE: how many it has");
        Well x = new Well();
        for (int k = 1; k <= 60; k++) {
            x.type(k == 1 ? 126 : 32).is(k);
        }
        says("FULL: 60");
        x.type('1').is(FULL).type(' ').is(FULL).type(126).is(FULL).caravan().is(-20).type('1').is(1);
        says("BAD: not 32 .. 126");
        Well y = new Well().type(31).is(BAD).type(127).is(BAD).type(0).is(BAD).type(-1).is(BAD).type(LOWEST).is(BAD).type(HIGHEST).is(BAD);
        y.type(256 + 'p').is(BAD).type(65536 + 'p').is(BAD).type(32).is(1).type(126).is(2).caravan().is(-21);
        // 60 letters are a CARAVAN, what is behind them is not
        y.letters("5,4;p1" + " ".repeat(53) + "b").type('b').is(FULL).caravan().is(1).of(0, 2).is(1);
    }

    private static void caravan() {
        says(8, "THE TAPE, which is empty then, is a CARAVAN: how many BEASTS");
        Well x = new Well().reads("0,0;g9b").is(1).type('x').is(1).caravan().is(-20).type('x').is(1).caravan().is(-20).caravan().is(-20);
        x.reads("60,20;p1,m2,y3,g4,p5b,m6b,y7b").is(7).type('6').is(1).caravan().is(-21).type('6').is(1);
        says("A FAULT (all stays)");
        Well y = Well.at("60,0;p9,g9,p9b").well(BUCKET, 9).pull(0).minutes(4).image().minutes(3).seed(9);
        List<Integer> ahead = y.look();
        y.reads("1,1;p1,").is(-27).reads("1,1;p1,y2b,m3x").is(-33).reads("1,99").is(-22).caravan().is(-20).reads("0,0;p1,p1,p1,p1,p1,p1,p1,").is(-44);
        Due.holds(Doc.where() + ": " + ahead, ahead.equals(y.look()));
        y.undo().is(6).count(THE_WATER).restore().is(1).count(THE_MINUTE).is(4).count(15).is(0);
    }

    private static void count() {
        says(9, "0 BEASTS, 1 THE MINUTE, 2 WATER, 3 what is in THE TROUGH, 4 WEAR, 5 MINUTES for which it is SPLICED yet, 6 MINUTES that may be UNDONE, 7 those that are SATED (a set), 8 what all have DRUNK, 9 MUD, 10 RISE, 11 BUCKET, 12 PLACES, 13 FROM, 14 LAW, 15 PULLER (NONE)");
        // 7 a MINUTE: 3 and 4; 4, 3 are left
        Well x = Well.at("60,0;p1,p9,m1b").well(RISE, 40).well(BUCKET, 7).well(PLACES, 2).well(FROM, 9).well(LAW, 3).pull(1).minutes(2);
        int[] want = {3, 2, 46, 3, 2, 0, 2, 5, 11, 0, 40, 7, 2, 9, 3, 1};
        for (int what = 0; what < want.length; what++) {
            x.count(what).is(want[what]);
        }
        Well rope = Well.at("60,0;p9,p9,p9").pull(0).well(BUCKET, 1).minutes(9).seed(0).drift(1).is(1).count(5).is(3).count(4).is(0);
        rope.minutes(2).count(5).is(1).minutes(1).count(5).is(0).minutes(9).count(5).is(0).count(KNOWN).is(8);
        Well.at("60,0;p1,p1,p1,p1,p1,p1,p1").minutes(60).count(7).is(127).count(8).is(21).count(15).is(NONE).count(3).is(24);
        says("BAD");
        x.count(-1).is(BAD).count(16).is(BAD).count(LOWEST).is(BAD).count(HIGHEST).is(BAD);
    }

    private static void minutes() {
        says(10, "n MINUTES (1 .. 60): gallons that were drunk");
        Well x = Well.at("60,0;p9").minutes(1).is(2).count(THE_MINUTE).is(1).minutes(60).is(25).count(THE_MINUTE).is(61).minutes(60).is(0);
        new Well().minutes(60).is(0).count(THE_MINUTE).is(60);
        says("BAD");
        x.minutes(0).is(BAD).minutes(61).is(BAD).minutes(-1).is(BAD).minutes(LOWEST).is(BAD).minutes(HIGHEST).is(BAD).count(THE_MINUTE).is(121);
        says("FULL: THE MINUTE would be above 9999");
        Well y = new Well().minutesTimes(166, 60).count(THE_MINUTE).is(9960);
        y.minutes(60).is(FULL).minutes(40).is(FULL).count(THE_MINUTE).is(9960).minutes(39).is(0).count(THE_MINUTE).is(9999);
        y.minutes(1).is(FULL).minutes(60).is(FULL).count(THE_MINUTE).is(9999).undo().is(7).minutes(2).is(FULL).minutes(1).is(0);
        y.minutes(1).is(FULL).water(240).is(51).holds(240).is(0).reads("9,1;p1").is(1).count(THE_MINUTE).is(0).minutes(60).is(3);
    }

    private static void drift() {
        says(11, "A DRIFT of n MINUTES (1 .. 60): how often THE ROPE broke");
        new Well().drift(1).is(0).count(THE_MINUTE).is(1).drift(60).is(0).count(THE_MINUTE).is(61);
        Well x = Well.at("60,0;p9,p9,p9").pull(0).well(BUCKET, 1).well(RISE, 1).minutes(9).seed(0).drift(1).is(1).count(8).is(10);
        // once or more in one call: by hand, a gallon a MINUTE, so long as both have not DRUNK 54
        for (int seed = 0; seed < 12; seed++) {
            Well y = Well.at("60,0;p9,p9,p9,p9").pull(0).well(BUCKET, 1).well(RISE, 1).seed(seed * 1000);
            y.drift(60).is(breaks(seed * 1000L, 60));
        }
        says("BAD");
        x.drift(0).is(BAD).drift(61).is(BAD).drift(-1).is(BAD).drift(LOWEST).is(BAD).drift(HIGHEST).is(BAD).count(THE_MINUTE).is(10);
        says("FULL: likewise");
        Well z = new Well().minutesTimes(166, 60);
        z.drift(60).is(FULL).drift(40).is(FULL).drift(39).is(0).count(THE_MINUTE).is(9999).drift(1).is(FULL).undo().is(7).drift(1).is(0);
    }

    /** How often a rope breaks that draws in each MINUTE but the three behind a break. */
    private static int breaks(long seed, int minutes) {
        long draw = seed;
        int wear = 0;
        int broke = 0;
        for (int k = 0; k < minutes; k++) {
            wear++;
            draw = (draw * 1103515245L + 12345L) % 2147483648L;
            if (draw / 65536 % 100 < wear / 10) {
                broke++;
                wear = 0;
                k += 3;
            }
        }
        return broke;
    }

    private static void undo() {
        says(12, "UNDONE: how many more may be");
        Well x = new Well().minutes(60);
        for (int left = 7; left >= 0; left--) {
            x.undo().is(left).count(KNOWN).is(left).count(THE_MINUTE).is(52 + left);
        }
        says("NONE: none is known");
        x.undo().is(NONE).count(THE_MINUTE).is(52).undo().is(NONE).minutes(1).undo().is(0).undo().is(NONE);
        new Well().undo().is(NONE).count(THE_WATER).is(30);
    }

    private static void seed() {
        says(13, "THE DRAW becomes v: what it was");
        Well x = new Well().seed(0).is(1).seed(HIGHEST).is(0).seed(1).is(HIGHEST).seed(2).is(1);
        says("BAD: below 0");
        x.seed(-1).is(BAD).seed(LOWEST).is(BAD).seed(2).is(2);
    }

    private static void water() {
        says(14, "WATER behind n MINUTES");
        Well x = Well.at("60,4;p9").water(0).is(60).water(1).is(58).water(2).is(56).water(240).is(51);
        says("BAD");
        x.water(-1).is(BAD).water(241).is(BAD).water(LOWEST).is(BAD).water(HIGHEST).is(BAD);
        new Well().water(0).is(30).water(240).is(51).water(241).is(BAD);
    }

    /** 221 gallons are NEEDED; a MINUTE gives 1 of them once WATER, by 1 a MINUTE, has risen above MUD. */
    private static Well slow(int water) {
        return Well.at(water + ",20;m9,m9,m9,m9,m9,m9,m8b").well(RISE, 40);
    }

    private static void done() {
        says(15, "DONE");
        Well x = Well.at("60,0;p1,p2").done(0).is(2).done(1).is(5).minutes(2).is(4).done(0).is(0).done(1).is(3);
        says("BAD");
        x.done(-1).is(BAD).done(2).is(BAD).done(NONE).is(BAD).done(LOWEST).is(BAD).done(HIGHEST).is(BAD);
        new Well().done(0).is(BAD);
        says("NONE");
        x.well(BUCKET, 1).done(1).is(NONE).pull(1).done(1).is(NONE).done(0).is(0);
        slow(1).done(6).is(240);
        slow(0).done(6).is(NONE).done(5).is(212);
    }

    private static void all() {
        says(16, "ALL");
        new Well().all().is(0);
        Well x = Well.at("60,0;p1,p2").all().is(5).pull(1).all().is(1).minutes(1).all().is(0);
        says("NONE");
        x.pull(NONE).well(BUCKET, 1).all().is(NONE);
        slow(1).all().is(240);
        slow(0).all().is(NONE);
    }

    private static void height() {
        says(17, "HEIGHT: FROM (0), when (1)");
        new Well().height(0).is(0).height(1).is(0);
        Well x = Well.at("50,4;p2,m3b,y1,g4b,p5").pull(4).height(0).is(34).height(1).is(12).well(FROM, 34).all().is(12);
        slow(1).height(0).is(0).height(1).is(240);
        says("BAD");
        x.height(-1).is(BAD).height(2).is(BAD).height(LOWEST).is(BAD).height(HIGHEST).is(BAD);
        says("NONE");
        slow(0).height(0).is(NONE).height(1).is(NONE);
        Well.at("60,0;p1").well(BUCKET, 1).height(0).is(NONE).height(1).is(NONE).height(2).is(BAD);
    }

    private static void pulls() {
        says(18, "PULLS: who (0; 7: nobody), when (1)");
        new Well().pulls(0).is(7).pulls(1).is(0);
        Well.at("60,0;p9").pulls(0).is(0).pulls(1).is(0);
        Well x = Well.at("50,4;p1,p1,p1,p1,p1,p1,p9").pulls(0).is(6).pulls(1).is(5);
        Well.at("9,0;y2,y2b").well(BUCKET, 9).pulls(0).is(7).pulls(1).is(3);
        says("BAD");
        x.pulls(-1).is(BAD).pulls(2).is(BAD).pulls(LOWEST).is(BAD).pulls(HIGHEST).is(BAD);
        says("NONE");
        Well.at("0,20;m9,m9").well(FROM, 60).pulls(0).is(NONE).pulls(1).is(NONE).pulls(2).is(BAD);
        // 20 MINUTES and a gallon each from then on: 244 if nobody PULLS, 212 whoever does
        Well.at("0,20;m9,m9,m9,m9,m9,m9,m9").well(RISE, 40).all().is(NONE).pulls(0).is(0).pulls(1).is(212);
    }

    private static void waits() {
        says(19, "WAITS");
        new Well().waits(0, 0).is(0).waits(1, 3).is(0);
        Well x = Well.at("60,0;p1,p2b").waits(0, 0).is(2).waits(1, 0).is(5).waits(0, 1).is(5).waits(1, 1).is(3).waits(0, 3).is(2).waits(1, 3).is(5);
        slow(0).waits(1, 0).is(240).pull(6).waits(1, 0).is(0);
        slow(1).waits(1, 0).is(240);
        slow(2).waits(1, 0).is(239);
        says("BAD");
        x.waits(-1, 0).is(BAD).waits(2, 0).is(BAD).waits(0, -1).is(BAD).waits(0, 4).is(BAD).waits(LOWEST, 0).is(BAD).waits(HIGHEST, 0).is(BAD);
        x.waits(0, LOWEST).is(BAD).waits(0, HIGHEST).is(BAD).count(14).is(0);
    }

    private static void least() {
        says(20, "LEAST: the LAW (0), WAITS together (1)");
        new Well().least(0).is(0).least(1).is(0);
        Well x = Well.at("60,0;p9b,p1").least(0).is(3).least(1).is(17).pull(0).least(0).is(0).least(1).is(1);
        Well.at("60,0;p9,p9,p9,p9,p9,p9,p9").well(BUCKET, 1).least(0).is(0).least(1).is(1680);
        says("BAD");
        x.least(-1).is(BAD).least(2).is(BAD).least(LOWEST).is(BAD).least(HIGHEST).is(BAD);
    }

    private static void both() {
        says(21, "BOTH: the LAW (0), the greater WAITS (1)");
        new Well().both(0).is(0).both(1).is(0);
        Well x = Well.at("60,0;p1,p1,m1b,m1b").both(0).is(3).both(1).is(17);
        Well.at("60,0;p9,p9,p9,p9,p9,p9,p9").well(BUCKET, 1).both(0).is(0).both(1).is(1680);
        says("BAD");
        x.both(-1).is(BAD).both(2).is(BAD).both(LOWEST).is(BAD).both(HIGHEST).is(BAD);
    }

    private static void wholly() {
        says(22, "WHOLLY: the set (0), how many (1)");
        new Well().wholly(0, 0).is(0).wholly(240, 1).is(0);
        Well x = Well.at("60,0;p2,p1").wholly(0, 0).is(0).wholly(0, 1).is(0).wholly(2, 0).is(2).wholly(2, 1).is(1).wholly(240, 0).is(3).wholly(240, 1).is(2);
        says("BAD");
        x.wholly(-1, 0).is(BAD).wholly(241, 0).is(BAD).wholly(LOWEST, 0).is(BAD).wholly(HIGHEST, 1).is(BAD);
        x.wholly(1, -1).is(BAD).wholly(1, 2).is(BAD).wholly(1, LOWEST).is(BAD).wholly(1, HIGHEST).is(BAD);
    }

    private static void drank() {
        says(23, "DRANK (v 0 .. 999): how many (0), the least (1; NONE)");
        Well x = Well.at("60,0;p1,p2,p3").drank(0, 0).is(1).drank(0, 1).is(0).drank(9, 0).is(2).drank(9, 1).is(3).drank(2, 0).is(0).drank(2, 1).is(NONE);
        x.drank(999, 0).is(0).drank(999, 1).is(NONE);
        says("BAD");
        x.drank(-1, 0).is(BAD).drank(1000, 0).is(BAD).drank(LOWEST, 1).is(BAD).drank(HIGHEST, 1).is(BAD);
        x.drank(9, -1).is(BAD).drank(9, 2).is(BAD).drank(9, LOWEST).is(BAD).drank(9, HIGHEST).is(BAD);
    }

    private static void holds() {
        says(24, "HOLDS");
        Well x = new Well().holds(0).is(1000000).holds(9).is(1000000).holds(10).is(990000).holds(240).is(0);
        says("BAD");
        x.holds(-1).is(BAD).holds(241).is(BAD).holds(LOWEST).is(BAD).holds(HIGHEST).is(BAD);
    }

    private static void image() {
        says(25, "All but SHEETS, THE TAPE is kept as an IMAGE: 1");
        // of nobody; in place of an older one; behind it all goes on
        Well x = new Well().image().is(1).minutes(9).beast(0, 1, 0).is(0).restore().is(1).count(0).is(0).count(THE_MINUTE).is(0).count(KNOWN).is(0);
        x.minutes(3).image().is(1).minutes(3).image().is(1).count(THE_MINUTE).is(6).minutes(5).restore().is(1).count(THE_MINUTE).is(6).undo().is(5);
        // rows and letters are as they are now, not as they were then
        Well y = new Well().sheet(0, 1, 3).is(3).sheet(1, 2, 4).is(4).letters("12").image().is(1);
        y.drop(0).is(3).sheet(1, 3, 5).is(5).sheet(2, 0, 6).is(6).letters("34").restore().is(1);
        y.drop(0).is(NULL).drop(1).is(5).drop(2).is(6).type('5').is(5);
    }

    private static void restore() {
        says(26, "All is as it was then: 1");
        Well x = Well.at("60,0;p9,g9,p9b,m9b").well(MUD, 1).well(RISE, 9).well(BUCKET, 6).well(PLACES, 2).well(FROM, 3).well(LAW, 3).pull(0);
        x.minutes(9).seed(0).drift(1).is(1).count(5).is(3).of(1, 7).is(1);
        List<Integer> then = x.look();
        x.image().is(1).reads("1,2;y1b").is(1).well(RISE, 1).well(BUCKET, 1).well(PLACES, 1).well(FROM, 1).well(LAW, 1).pull(0).seed(5).minutes(9);
        x.restore().is(1);
        Due.holds(Doc.where() + ": " + then, then.equals(x.look()));
        // what may be UNDONE too; and as often as asked for
        for (int k = 0; k < 3; k++) {
            for (int left = 7; left >= 0; left--) {
                x.undo().is(left).count(THE_MINUTE).is(2 + left);
            }
            x.undo().is(NONE).restore().is(1).count(KNOWN).is(8);
        }
        Due.holds(Doc.where() + ": again", then.equals(x.look()));
        // what a GREEDY one has DRUNK in a row
        Well y = Well.at("60,0;p9,g9").well(BUCKET, 8).pull(0).minutes(1).is(8).image().is(1).pull(1).minutes(1).restore().is(1);
        y.minutes(1).is(8).of(1, 7).is(5);
        says("NONE: there is none");
        new Well().restore().is(NONE).minutes(3).restore().is(NONE).count(THE_MINUTE).is(3).image().is(1).restore().is(1);
    }

    private static void buckets() {
        says(27, "BUCKETS by n heights (1 .. 8), two items each of a SHEET (how many MINUTES on, 0 .. 240, and WATER, 0 .. 60), taken as a row of a LANE, from item i on: a set");
        // one PULLS: by 4 it is 60, 56, 52, 48, ..
        Well x = Well.at("60,0;p9").pull(0);
        for (int lane = 0; lane < 4; lane++) {
            x.row(lane, lane, 2, 52, 1, 56, 0, 60, 0, 60, 0, 60, 0, 60, 0, 60, 1, 56, 9, 9, 9, 1, 56, 9, 2, 52);
            x.buckets(lane, lane, 0, 1).is(1 << 4).buckets(lane, lane, 0, 8).is(1 << 4).buckets(lane, lane, 4, 1).is(ALL_SIZES);
            x.buckets(lane, lane, 4, 5).is(ALL_SIZES).buckets(lane, lane, 4, 6).is(1 << 4).buckets(lane, lane, 19, 1).is(1 << 4);
            x.buckets(lane, lane, 22, 1).is(1 << 4).buckets(lane, lane, 21, 1).is(0);
        }
        // items at their ends: 0 and 0, 0 and 60, 240 and 0, 240 and 60
        x.row(0, 1, 0, 0, 0, 60, 240, 0, 240, 60).buckets(0, 1, 0, 1).is(0).buckets(0, 1, 2, 1).is(ALL_SIZES).buckets(0, 1, 4, 1).is(0);
        x.buckets(0, 1, 6, 1).is(0).well(WATER, 0).is(60).buckets(0, 1, 0, 1).is(ALL_SIZES).buckets(0, 1, 2, 1).is(0);
        x.well(WATER, 60).well(RISE, 1).buckets(0, 1, 6, 1).is(ALL_SIZES).buckets(0, 1, 4, 1).is(0);
        // all heights must be so: the eighth is not
        x.well(RISE, 10).row(3, 2, 0, 60, 0, 60, 0, 60, 0, 60, 0, 60, 0, 60, 0, 60, 0, 59).buckets(3, 2, 0, 7).is(ALL_SIZES).buckets(3, 2, 0, 8).is(0);
        x.row(3, 2, 1, 56, 1, 55).buckets(3, 2, 0, 2).is(0).row(3, 2, 2, 52, 0, 60).buckets(3, 2, 0, 2).is(1 << 4);
    }

    private static void bucketsRefused() {
        says(27, "BAD");
        Well x = Well.at("60,0;p9").row(0, 2, 0, 60, 241, 60, 0, 61, -1, 60, 0, -1, 0, 60).row(1, 2).row(2, 3, 0, 60, 1L << 32, 60, 0, (1L << 32) + 60);
        x.buckets(-1, 2, 0, 1).is(BAD).buckets(4, 2, 0, 1).is(BAD).buckets(LOWEST, 2, 0, 1).is(BAD).buckets(HIGHEST, 2, 0, 1).is(BAD);
        x.buckets(0, -1, 0, 1).is(BAD).buckets(0, 4, 0, 1).is(BAD).buckets(0, LOWEST, 0, 1).is(BAD).buckets(0, HIGHEST, 0, 1).is(BAD);
        x.buckets(0, 2, 0, 0).is(BAD).buckets(0, 2, 0, 9).is(BAD).buckets(0, 2, 0, -1).is(BAD).buckets(0, 2, 0, LOWEST).is(BAD);
        x.buckets(0, 2, 0, HIGHEST).is(BAD).buckets(3, 2, 0, 1 << 30).is(BAD).buckets(3, 2, 0, 9).is(BAD);
        says("NULL");
        x.buckets(3, 0, 0, 1).is(NULL).buckets(3, 3, -1, 8).is(NULL);
        says("CAST");
        x.buckets(0, 0, 0, 1).is(CAST).buckets(0, 1, 0, 1).is(CAST).buckets(0, 3, 99, 1).is(CAST).buckets(1, 3, 0, 1).is(CAST).buckets(2, 2, 0, 1).is(CAST);
        says("INDEX");
        x.buckets(0, 2, -1, 1).is(INDEX).buckets(0, 2, 11, 1).is(INDEX).buckets(0, 2, 10, 1).is(ALL_SIZES).buckets(0, 2, 12, 1).is(INDEX);
        x.buckets(0, 2, 0, 7).is(INDEX).buckets(0, 2, 1, 6).is(INDEX).buckets(1, 2, 0, 1).is(INDEX).buckets(0, 2, LOWEST, 1).is(INDEX);
        x.buckets(0, 2, HIGHEST, 1).is(INDEX).buckets(0, 2, HIGHEST, 8).is(INDEX).buckets(0, 2, HIGHEST - 1, 1).is(INDEX);
        says("NOT: an item is not as told");
        x.buckets(0, 2, 2, 1).is(NOT).buckets(0, 2, 4, 1).is(NOT).buckets(0, 2, 6, 1).is(NOT).buckets(0, 2, 8, 1).is(NOT);
        x.buckets(0, 2, 0, 2).is(NOT).buckets(0, 2, 0, 6).is(NOT).buckets(0, 2, 0, 1).is(ALL_SIZES).buckets(2, 3, 0, 1).is(ALL_SIZES);
        x.buckets(2, 3, 2, 1).is(NOT).buckets(2, 3, 4, 1).is(NOT);
        // also behind a height that would never be so
        x.row(3, 0, 0, 1, 0, 61).buckets(3, 0, 0, 1).is(0).buckets(3, 0, 0, 2).is(NOT);
    }

    private static void film() {
        says(28, "WATER behind 1, 2, .. n MINUTES (1 .. 24), an item each, comes to a SHEET likewise: n");
        for (int lane = 0; lane < 4; lane++) {
            Well x = Well.at("60,0;p9,m9").well(BUCKET, 9).pull(0).sheet(0, lane, 24).is(24).sheet(1, lane, 2).is(2);
            x.film(24, 0, lane, 0).is(24);
            for (int k = 0; k < 24; k++) {
                int water = x.water(k + 1).got();
                x.copy(0, k, 1, 1, 1).is(1).item(1, lane, 0, 0).image().well(WATER, water);
                x.buckets(1, lane, 0, 1).is(ALL_SIZES).restore();
            }
            x.count(THE_MINUTE).is(0).count(THE_WATER).is(60);
        }
        // one alone, at the end; the others stay
        Well y = Well.at("60,0;p9").pull(0).row(2, 1, 0, 60, 7).film(1, 2, 1, 2).is(1).buckets(2, 1, 0, 1).is(ALL_SIZES);
        y.item(2, 1, 1, 1).is(1).buckets(2, 1, 1, 1).is(1 << 4).film(3, 2, 1, 0).is(3).item(2, 1, 0, 2).is(1).buckets(2, 1, 0, 1).is(1 << 4);
        y.item(2, 1, 1, 3).is(1).buckets(2, 1, 1, 1).is(1 << 4);
    }

    private static void filmRefused() {
        says(28, "BAD");
        Well x = new Well().sheet(0, 2, 24).is(24).sheet(1, 2, 0).is(0);
        x.film(0, 0, 2, 0).is(BAD).film(25, 0, 2, 0).is(BAD).film(-1, 0, 2, 0).is(BAD).film(LOWEST, 0, 2, 0).is(BAD).film(HIGHEST, 0, 2, 0).is(BAD);
        x.film(1, -1, 2, 0).is(BAD).film(1, 4, 2, 0).is(BAD).film(1, LOWEST, 2, 0).is(BAD).film(1, HIGHEST, 2, 0).is(BAD);
        x.film(1, 0, -1, 0).is(BAD).film(1, 0, 4, 0).is(BAD).film(1, 0, LOWEST, 0).is(BAD).film(1, 0, HIGHEST, 0).is(BAD).film(25, 3, 2, 0).is(BAD);
        says("NULL");
        x.film(1, 3, 0, 0).is(NULL).film(24, 3, 3, -1).is(NULL);
        says("CAST");
        x.film(1, 0, 0, 0).is(CAST).film(1, 0, 1, 0).is(CAST).film(1, 0, 3, -1).is(CAST);
        says("INDEX");
        x.film(1, 0, 2, -1).is(INDEX).film(1, 0, 2, 24).is(INDEX).film(1, 0, 2, 23).is(1).film(24, 0, 2, 1).is(INDEX).film(24, 0, 2, 0).is(24);
        x.film(2, 0, 2, 23).is(INDEX).film(2, 0, 2, 22).is(2).film(1, 1, 2, 0).is(INDEX).film(1, 0, 2, LOWEST).is(INDEX);
        x.film(1, 0, 2, HIGHEST).is(INDEX).film(24, 0, 2, HIGHEST).is(INDEX).film(24, 0, 2, HIGHEST - 23).is(INDEX);
    }

    private static void sheet() {
        says(29, "A SHEET holds a new row of a LANE: n");
        Well x = Well.at("60,0;p9");
        for (int lane = 0; lane < 4; lane++) {
            x.sheet(lane, lane, 0).is(0).item(lane, lane, 0, 1).is(INDEX).sheet(lane, lane, 24).is(24).item(lane, lane, 23, 1).is(1);
            // new: each item is 0 again, in place of whatever there was
            x.row(lane, 3 - lane, 9, 60).sheet(lane, lane, 2).is(2).item(lane, lane, 1, 60).is(1).buckets(lane, lane, 0, 1).is(ALL_SIZES);
            x.item(lane, 3 - lane, 0, 0).is(CAST).item(lane, lane, 2, 0).is(INDEX);
        }
        says("BAD: also n above 24");
        x.sheet(0, 0, 25).is(BAD).sheet(0, 0, HIGHEST).is(BAD).sheet(-1, 0, 1).is(BAD).sheet(4, 0, 1).is(BAD).sheet(LOWEST, 0, 1).is(BAD);
        x.sheet(HIGHEST, 0, 1).is(BAD).sheet(0, -1, 1).is(BAD).sheet(0, 4, 1).is(BAD).sheet(0, LOWEST, 1).is(BAD).sheet(0, HIGHEST, 1).is(BAD);
        x.sheet(4, 0, -1).is(BAD).sheet(0, 4, -1).is(BAD);
        says("SIZE: n below 0");
        x.sheet(0, 0, -1).is(SIZE).sheet(0, 0, LOWEST).is(SIZE).drop(0).is(2).sheet(0, 0, -1).is(SIZE).drop(0).is(NULL);
    }

    private static void drop() {
        says(30, "A SHEET holds nothing: how many items it had");
        Well x = new Well();
        for (int s = 0; s < 4; s++) {
            x.sheet(s, s, 24).is(24).drop(s).is(24).item(s, s, 0, 0).is(NULL).sheet(s, s, 0).is(0).drop(s).is(0).sheet(s, 3 - s, 1).is(1).drop(s).is(1);
        }
        says("BAD");
        x.drop(-1).is(BAD).drop(4).is(BAD).drop(LOWEST).is(BAD).drop(HIGHEST).is(BAD);
        says("NULL");
        x.drop(0).is(NULL).drop(3).is(NULL).drop(3).is(NULL);
        new Well().drop(0).is(NULL).drop(1).is(NULL).drop(2).is(NULL).drop(3).is(NULL);
        // the others stay
        new Well().sheet(0, 0, 1).sheet(1, 0, 2).sheet(2, 0, 3).sheet(3, 0, 4).drop(1).is(2).drop(0).is(1).drop(3).is(4).drop(2).is(3);
    }

    private static void item() {
        says(31, "Item i of a SHEET, taken as a row of a LANE, becomes v, its lowest bits: 1");
        Well x = Well.at("60,0;p9");
        int[] bits = {8, 16, 32, 64};
        for (int lane = 0; lane < 4; lane++) {
            x.sheet(0, lane, 2).item(0, lane, 1, 60).is(1);
            // 0, and what is 0 by its lowest bits alone
            height(x, lane, 0, true);
            height(x, lane, 1L << 8, bits[lane] <= 8);
            height(x, lane, 1L << 16, bits[lane] <= 16);
            height(x, lane, 1L << 32, bits[lane] <= 32);
            height(x, lane, Long.MIN_VALUE, bits[lane] < 64);
            height(x, lane, (1L << bits[lane] - 1) - 1, false);
            height(x, lane, 1L << bits[lane] - 1, false);
            height(x, lane, -1, false);
            height(x, lane, Long.MAX_VALUE, false);
            x.sheet(1, lane, 24).item(1, lane, 0, 1).is(1).item(1, lane, 23, 1).is(1);
        }
        // as a byte 128 .. 255 are below 0, 127 is not; a longer item is 240, not a shorter
        x.row(2, 0, 127, 60).buckets(2, 0, 0, 1).is(2).row(2, 0, 128, 60).buckets(2, 0, 0, 1).is(NOT).row(2, 0, 240, 60).buckets(2, 0, 0, 1).is(NOT);
        x.row(2, 1, 240, 60).buckets(2, 1, 0, 1).is(2).row(2, 1, 65536 + 240, 60).buckets(2, 1, 0, 1).is(2).row(2, 1, 32768, 60).buckets(2, 1, 0, 1).is(NOT);
        x.row(2, 2, (1L << 32) + 240, 60).buckets(2, 2, 0, 1).is(2).row(2, 3, 240, 60).buckets(2, 3, 0, 1).is(2);
    }

    /** Whether v, as the MINUTE of a height of 60, is 0 in a row of the LANE. */
    private static void height(Well x, int lane, long v, boolean now) {
        x.item(0, lane, 0, v).is(1).buckets(0, lane, 0, 1);
        Due.holds(Doc.where() + ": " + v + " in LANE " + lane + " answered " + x.got(), x.got() == ALL_SIZES == now);
    }

    private static void itemRefused() {
        says(31, "BAD");
        Well x = new Well().sheet(0, 2, 3).is(3).sheet(1, 2, 0).is(0);
        x.item(-1, 2, 0, 0).is(BAD).item(4, 2, 0, 0).is(BAD).item(LOWEST, 2, 0, 0).is(BAD).item(HIGHEST, 2, 0, 0).is(BAD);
        x.item(0, -1, 0, 0).is(BAD).item(0, 4, 0, 0).is(BAD).item(0, LOWEST, 0, 0).is(BAD).item(0, HIGHEST, 0, 0).is(BAD).item(3, 4, 0, 0).is(BAD);
        says("NULL");
        x.item(3, 0, 0, 0).is(NULL).item(3, 2, -1, 0).is(NULL);
        says("CAST");
        x.item(0, 0, 0, 0).is(CAST).item(0, 1, 0, 0).is(CAST).item(0, 3, 0, 0).is(CAST).item(0, 3, 3, 0).is(CAST).item(1, 1, 0, 0).is(CAST);
        says("INDEX");
        x.item(0, 2, -1, 0).is(INDEX).item(0, 2, 3, 0).is(INDEX).item(0, 2, 2, 0).is(1).item(1, 2, 0, 0).is(INDEX);
        x.item(0, 2, LOWEST, 0).is(INDEX).item(0, 2, HIGHEST, 0).is(INDEX);
    }

    private static void copy() {
        says(32, "n items of a SHEET from i on come to another one (or the same) from j on, as if all were taken ahead: n");
        for (int lane = 0; lane < 4; lane++) {
            Well x = Well.at("60,0;p9").pull(0).row(0, lane, 0, 60, 1, 56, 2, 52).row(1, lane, 9, 9, 9, 9, 9, 9, 9, 9);
            x.copy(0, 0, 1, 2, 6).is(6).buckets(1, lane, 2, 3).is(1 << 4).buckets(1, lane, 0, 1).is(0).buckets(0, lane, 0, 3).is(1 << 4);
            x.copy(0, 4, 1, 6, 2).is(2).copy(0, 0, 1, 0, 2).is(2).buckets(1, lane, 0, 4).is(1 << 4);
            // within one row: up, down, upon itself
            x.copy(1, 0, 1, 2, 6).is(6).buckets(1, lane, 2, 1).is(ALL_SIZES).buckets(1, lane, 6, 1).is(1 << 4).buckets(1, lane, 2, 3).is(1 << 4);
            x.row(1, lane, 7, 7, 0, 60, 1, 56, 2, 52).copy(1, 2, 1, 0, 6).is(6).buckets(1, lane, 0, 4).is(1 << 4).copy(1, 0, 1, 0, 8).is(8);
            x.buckets(1, lane, 0, 1).is(ALL_SIZES).item(1, lane, 2, 0).is(1).buckets(1, lane, 2, 1).is(0).item(1, lane, 3, 60).buckets(1, lane, 2, 1).is(ALL_SIZES);
            x.row(1, lane, 0, 60, 1, 56, 2, 52, 7).copy(1, 0, 1, 1, 6).is(6).buckets(1, lane, 1, 3).is(1 << 4);
            // of 0 items, at the rows' ends too; of empty rows
            x.copy(0, 6, 1, 7, 0).is(0).copy(0, 0, 1, 0, 0).is(0).sheet(2, lane, 0).is(0).copy(2, 0, 2, 0, 0).is(0).copy(2, 0, 1, 7, 0).is(0);
            x.sheet(3, lane, 24).is(24).copy(3, 0, 3, 0, 24).is(24).copy(3, 0, 3, 23, 1).is(1).copy(3, 23, 3, 0, 1).is(1);
            x.buckets(0, lane, 0, 3).is(1 << 4).buckets(1, lane, 1, 3).is(1 << 4);
        }
    }

    private static void copyRefused() {
        says(32, "BAD");
        Well x = new Well().sheet(0, 2, 3).is(3).sheet(1, 2, 5).is(5).sheet(2, 1, 5).is(5);
        x.copy(-1, 0, 0, 0, 1).is(BAD).copy(4, 0, 0, 0, 1).is(BAD).copy(0, 0, -1, 0, 1).is(BAD).copy(0, 0, 4, 0, 1).is(BAD);
        x.copy(LOWEST, 0, 0, 0, 1).is(BAD).copy(HIGHEST, 0, 0, 0, 1).is(BAD).copy(0, 0, LOWEST, 0, 1).is(BAD).copy(0, 0, HIGHEST, 0, 1).is(BAD);
        x.copy(3, 0, 4, 0, 1).is(BAD).copy(4, 0, 3, 0, 1).is(BAD);
        says("NULL (either)");
        x.copy(3, 0, 0, 0, 1).is(NULL).copy(0, 0, 3, 0, 1).is(NULL).copy(3, 0, 3, 0, 0).is(NULL).copy(3, -1, 0, -1, -1).is(NULL);
        says("CAST: of unlike LANES");
        x.copy(0, 0, 2, 0, 1).is(CAST).copy(2, 0, 0, 0, 1).is(CAST).copy(0, -1, 2, 0, 1).is(CAST).copy(0, 0, 2, 0, 0).is(CAST).copy(2, 0, 2, 1, 1).is(1);
        says("INDEX");
        int[][] wrong = {{-1, 0, 1}, {0, -1, 1}, {0, 0, -1}, {3, 0, 1}, {0, 5, 1}, {0, 0, 4}, {1, 0, 3}, {0, 3, 3}, {4, 0, 0}, {0, 6, 0}, {-1, 0, 0},
            {0, -1, 0}, {1, 1, -1}, {HIGHEST, 0, 1}, {0, HIGHEST, 1}, {0, 0, HIGHEST}, {1, 1, HIGHEST}, {HIGHEST, HIGHEST, HIGHEST}, {LOWEST, 0, 1},
            {0, LOWEST, 1}, {0, 0, LOWEST}, {LOWEST, LOWEST, LOWEST}, {HIGHEST, 0, LOWEST}};
        for (int[] w : wrong) {
            x.copy(0, w[0], 1, w[1], w[2]).is(INDEX);
        }
        x.copy(0, 0, 1, 2, 3).is(3).copy(0, 2, 1, 4, 1).is(1).copy(0, 3, 1, 5, 0).is(0).copy(1, 0, 0, 0, 4).is(INDEX).copy(1, 2, 0, 0, 3).is(3);
    }
}
