import java.io.IOException;
import java.util.List;
import java.util.function.Consumer;

/** Each sentence of the document's terms that names a boundary case, by a test of its own. */
public final class BoundsOfTermsTest {
    private static final int BAD = -1, NOT = -2, FULL = -3, NONE = -4, NULL = -11, CAST = -12, INDEX = -13, SIZE = -14;
    private static final int LOWEST = Integer.MIN_VALUE, HIGHEST = Integer.MAX_VALUE;
    private static final int WATER = 0, MUD = 1, RISE = 2, BUCKET = 3, PLACES = 4, FROM = 5, LAW = 6;
    private static final int NEEDS = 3, DRUNK = 4, PULLED = 5, SATED = 6, SWOLLEN = 7, DRINKS = 8;
    private static final int THE_MINUTE = 1, THE_WATER = 2, THE_TROUGH = 3, THE_WEAR = 4, SPLICED = 5, KNOWN = 6, SATED_SET = 7;
    private static final int ALL_SIZES = 1022;

    private static String part = "";

    private BoundsOfTermsTest() {
    }

    public static void main(String[] args) throws IOException {
        part = "## What it is";
        calls();
        part = "## Terms";
        answers();
        firstThatACallNames();
        machineFindsInThisOrder();
        refusedChangesNothing();
        setsAreBits();
        whatIsDividedIsCut();
        part = "==== 1";
        theWell();
        mud();
        rise();
        theBucket();
        theTrough();
        from();
        wear();
        beasts();
        sated();
        kinds();
        swollen();
        laws();
        minuteRises();
        minuteDraws();
        minuteDrawsNothing();
        minuteWaters();
        part = "==== 2";
        foretoldChangesNothing();
        foretoldWater();
        foretoldDone();
        foretoldAll();
        height();
        pulls();
        notIn240();
        waits();
        least();
        both();
        wholly();
        drank();
        holds();
        part = "==== 3";
        buckets();
        undoneKnown();
        undoneGivesBack();
        undoneLeaves();
        draw();
        ropeBreaks();
        ropeIsSpliced();
        caravanNumbers();
        caravanBeasts();
        caravanReplaces();
        faults();
        blanks();
        part = "Ahead of the calls `buckets`";
        sheets();
        if (args.length > 0) {
            Doc.compare("## What it is", "## Terms", "==== 1", "==== 2", "==== 3", "Ahead of the calls `buckets`");
        }
        Due.end();
    }

    private static void says(String words) {
        Doc.says(part, words);
    }

    /** THE DRAW behind this one, by numbers that don't wrap around. */
    private static long next(long draw) {
        return (draw * 1103515245L + 12345L) % 2147483648L;
    }

    /** The least seed whose next DRAW by 65536 leaves this over by 100. */
    private static int seedFor(int over) {
        int v = 0;
        while (next(v) / 65536 % 100 != over) {
            v++;
        }
        return v;
    }

    /** A gallon, a bucket of it, each MINUTE: the first one PULLS, THE WELL is full again each time. */
    private static Well dripping() {
        return Well.at("60,0;p9,p9,p9").pull(0).well(BUCKET, 1).well(RISE, 1);
    }

    /** Much of everything: a rope that broke, a SWOLLEN one, all that is known, an IMAGE, rows, letters. */
    private static void busy(Well x) {
        x.reads("60,0;p9,g9,p9b,m9b");
        x.well(BUCKET, 6).pull(0).minutes(2).image().minutes(7).seed(0).drift(1).is(1);
        x.well(LAW, 3).seed(77);
        x.row(0, 0, 0, 18, 1, 22, 127).row(1, 3, 0, 18, 240).row(2, 0, 3, 28, -1, 9);
        x.letters("50,4;p2");
    }

    /** Both have had the same calls; one has had this one besides, and nothing tells them apart. */
    private static void leavesAll(Consumer<Well> ahead, Consumer<Well> call) {
        Well one = new Well();
        Well other = new Well();
        ahead.accept(one);
        ahead.accept(other);
        call.accept(one);
        List<Integer> seen = one.search();
        Due.holds(Doc.where() + ": what is seen behind it, " + seen + " and " + other.used() + " calls",
            seen.equals(other.search()));
    }

    // ---- what it is

    private static void calls() {
        says("An object is used for at most 512 calls after it has been made");
        Well x = new Well();
        for (int k = 0; k < 511; k++) {
            x.minutes(k < 100 ? 60 : 1);
        }
        x.count(THE_MINUTE).is(6411);
        Due.is("calls made", x.used(), 512);
    }

    // ---- terms

    private static void answers() {
        says("BAD -1 (a number is not as told, there is no such thing)");
        new Well().well(RISE, 0).is(BAD).of(0, 0).is(BAD);
        Due.is("BAD", WellTurns.BAD, -1);
        says("NOT -2 (as told)");
        new Well().row(0, 2, 241, 0).buckets(0, 2, 0, 1).is(NOT);
        Due.is("NOT", WellTurns.NOT, -2);
        says("FULL -3");
        Well.at("1,1;p1,p1,p1,p1,p1,p1,p1").beast(0, 1, 0).is(FULL);
        Due.is("FULL", WellTurns.FULL, -3);
        says("NONE -4 (as told)");
        new Well().undo().is(NONE).count(15).is(NONE);
        Due.is("NONE", WellTurns.NONE, -4);
        says("CAST -12 (of SHEETS another LANE)");
        new Well().sheet(0, 0, 1).item(0, 1, 0, 0).is(CAST);
        Due.is("CAST", WellTurns.CAST, -12);
        says("what the machine finds: NULL -11, INDEX -13, SIZE -14");
        new Well().drop(0).is(NULL).sheet(0, 0, 1).item(0, 0, 1, 0).is(INDEX).sheet(0, 0, -1).is(SIZE);
        Due.is("NULL", WellTurns.NULL, -11);
        Due.is("INDEX", WellTurns.INDEX, -13);
        Due.is("SIZE", WellTurns.SIZE, -14);
    }

    private static void firstThatACallNames() {
        says("Answers below 0, of several the first that a call names");
        Well.at("1,1;p1,p1,p1,p1,p1,p1,p1").beast(4, 1, 0).is(BAD).beast(0, 0, 0).is(BAD).beast(0, 1, 2).is(BAD);
        Well full = new Well();
        for (int k = 0; k < 60; k++) {
            full.type('1');
        }
        full.type(31).is(BAD).type(127).is(BAD).type('1').is(FULL);
        Well late = new Well().minutesTimes(166, 60).minutes(39);
        late.minutes(0).is(BAD).minutes(61).is(BAD).drift(0).is(BAD).drift(61).is(BAD).minutes(1).is(FULL);
        // nothing is drawn by half a bucket of 1: ALL, DONE are NONE
        Well dry = Well.at("60,0;p1").well(BUCKET, 1);
        dry.height(0).is(NONE).height(2).is(BAD).height(-1).is(BAD).done(0).is(NONE).done(1).is(BAD);
        dry.well(FROM, 60).well(WATER, 0).well(RISE, 40).beast(0, 9, 0);
        dry.pulls(0).is(NONE).pulls(2).is(BAD).pulls(-1).is(BAD);
        dry.drank(1, 1).is(NONE).drank(1, 2).is(BAD).drank(1000, 1).is(BAD);
        Well rows = new Well().row(0, 2, -1, 99);
        rows.buckets(3, 0, -1, 9).is(BAD).buckets(3, 4, -1, 1).is(BAD).buckets(0, 2, 1, 1).is(INDEX).buckets(0, 2, 0, 1).is(NOT);
        rows.sheet(4, 0, -1).is(BAD).sheet(0, 4, -1).is(BAD).sheet(0, -1, -1).is(BAD).sheet(-1, 0, LOWEST).is(BAD);
        rows.film(25, 3, 0, -1).is(BAD).film(1, 3, 4, -1).is(BAD).item(3, 4, -1, 0).is(BAD);
        rows.copy(3, -1, 4, -1, -1).is(BAD).copy(4, -1, 3, -1, -1).is(BAD);
    }

    private static void machineFindsInThisOrder() {
        says("(NULL, CAST, INDEX, SIZE in this order)");
        Well x = new Well().sheet(0, 1, 2).sheet(1, 2, 2);
        for (int i : new int[] {-1, 2, 24, LOWEST, HIGHEST}) {
            x.buckets(3, 0, i, 1).is(NULL).buckets(0, 0, i, 1).is(CAST).buckets(0, 1, i, 1).is(INDEX);
            x.film(1, 3, 0, i).is(NULL).film(1, 0, 0, i).is(CAST).film(1, 0, 1, i).is(INDEX);
            x.item(3, 0, i, 1).is(NULL).item(0, 0, i, 1).is(CAST).item(0, 1, i, 1).is(INDEX);
            x.copy(3, i, 0, 0, 1).is(NULL).copy(0, 0, 3, i, 1).is(NULL).copy(3, i, 3, i, 1).is(NULL);
            x.copy(0, i, 1, 0, 1).is(CAST).copy(1, 0, 0, i, 1).is(CAST);
            x.copy(0, i, 0, 0, 1).is(INDEX).copy(0, 0, 0, i, 1).is(INDEX);
        }
        x.copy(3, 0, 0, 0, -1).is(NULL).copy(0, 0, 1, 0, -1).is(CAST).copy(0, 0, 0, 0, -1).is(INDEX);
    }

    private static void refusedChangesNothing() {
        says("What is refused changes nothing, but as told");
        leavesAll(BoundsOfTermsTest::busy, x -> x.beast(4, 1, 0).is(BAD).beast(0, 10, 0).is(BAD).beast(0, 1, -1).is(BAD));
        leavesAll(BoundsOfTermsTest::busy, x -> x.of(4, 0).is(BAD).of(0, 9).is(BAD).turn(4).is(BAD).count(16).is(BAD));
        int[] low = {0, 0, 1, 1, 1, 0, 0};
        int[] high = {60, 20, 40, 9, 7, 60, 3};
        leavesAll(BoundsOfTermsTest::busy, x -> {
            for (int what = 0; what < 7; what++) {
                x.well(what, low[what] - 1).is(BAD).well(what, high[what] + 1).is(BAD);
            }
            x.well(7, 1).is(BAD).well(-1, 1).is(BAD);
        });
        leavesAll(BoundsOfTermsTest::busy, x -> x.pull(4).is(BAD).pull(-1).is(BAD).pull(-5).is(BAD));
        leavesAll(BoundsOfTermsTest::busy, x -> x.type(31).is(BAD).type(127).is(BAD).seed(-1).is(BAD));
        leavesAll(BoundsOfTermsTest::busy, x -> x.minutes(0).is(BAD).minutes(61).is(BAD).drift(0).is(BAD).drift(61).is(BAD));
        leavesAll(BoundsOfTermsTest::busy, x -> x.buckets(0, 0, 4, 1).is(INDEX).buckets(2, 0, 2, 1).is(NOT)
            .buckets(0, 1, 0, 1).is(CAST).buckets(3, 0, 0, 1).is(NULL).buckets(0, 0, 0, 9).is(BAD));
        leavesAll(BoundsOfTermsTest::busy, x -> x.film(6, 0, 0, 0).is(INDEX).film(2, 0, 0, 4).is(INDEX).film(1, 0, 1, 0).is(CAST)
            .film(1, 3, 0, 0).is(NULL).film(0, 0, 0, 0).is(BAD).film(25, 0, 0, 0).is(BAD));
        leavesAll(BoundsOfTermsTest::busy, x -> x.sheet(0, 0, -1).is(SIZE).sheet(0, 4, 1).is(BAD).sheet(0, 0, 25).is(BAD)
            .sheet(3, 0, -1).is(SIZE).drop(4).is(BAD).drop(3).is(NULL));
        leavesAll(BoundsOfTermsTest::busy, x -> x.item(0, 0, 5, 1).is(INDEX).item(0, 0, -1, 1).is(INDEX).item(0, 1, 0, 1).is(CAST)
            .item(3, 0, 0, 1).is(NULL).item(0, 4, 0, 1).is(BAD));
        leavesAll(BoundsOfTermsTest::busy, x -> x.copy(2, 0, 0, 2, 4).is(INDEX).copy(2, 2, 0, 0, 3).is(INDEX)
            .copy(0, 0, 1, 0, 1).is(CAST).copy(0, 0, 3, 0, 1).is(NULL).copy(3, 0, 0, 0, 1).is(NULL).copy(2, 0, 0, 0, -1).is(INDEX));
        leavesAll(x -> x.reads("9,1;p1,m2,y3,g4,p5b,m6b,y7b"), x -> x.beast(0, 1, 0).is(FULL));
        leavesAll(x -> x.minutesTimes(166, 60).minutes(38), x -> x.minutes(2).is(FULL).drift(2).is(FULL));
        leavesAll(x -> x.beast(0, 1, 0), x -> x.undo().is(NONE).restore().is(NONE));
        says("but as told");
        Well x = Well.at("50,4;p2").minutes(2);
        x.reads("50,4;p").is(-26).type('5').is(1);
        x.count(KNOWN).is(2).count(THE_WATER).is(48).count(0).is(1);
    }

    private static void setsAreBits() {
        says("Sets are bits");
        Well x = Well.at("60,0;p1,p9,p1,p9,p9,p9,p1").well(LAW, 1).well(BUCKET, 9).well(PLACES, 7);
        x.drank(3, 0).is(3).drank(3, 1).is(1).drank(9, 1).is(1 | 4 | 64).drank(117, 1).is(127);
        x.wholly(240, 0).is(127).count(SATED_SET).is(0);
        x.minutesTimes(4, 60).count(SATED_SET).is(127);
        // the seventh alone is SATED
        Well y = Well.at("60,0;p9,p9,p9,p9,p9,p9,m1").well(LAW, 2).well(PLACES, 1).well(BUCKET, 8);
        y.wholly(2, 0).is(64).minutes(2).is(8).count(SATED_SET).is(64);
        new Well().row(0, 2, 0, 30).buckets(0, 2, 0, 1).is(ALL_SIZES);
    }

    private static void whatIsDividedIsCut() {
        says("What is divided is cut");
        // 19 by 10, half of 9, 5 PULLED by 3, 19 by 10 of WEAR
        Well.at("41,0;p9").water(1).is(40).well(BUCKET, 9).water(1).is(38).well(BUCKET, 1).water(1).is(42);
        dripping().minutes(5).of(0, NEEDS).is(28).minutes(14).of(0, NEEDS).is(33);
        dripping().minutes(18).holds(1).is(990000).minutes(1).holds(1).is(980000);
        // 980100 times 99 by 100: 970299; times 99 by 100: 960596 of 960596.01
        new Well().holds(12).is(970299).holds(13).is(960596).holds(14).is(950990);
    }

    // ---- 1

    private static void theWell() {
        says("THE WELL has WATER (0 .. 60 gallons; 30 at first)");
        new Well().count(THE_WATER).is(30).water(0).is(30);
        new Well().well(WATER, -1).is(BAD).well(WATER, 61).is(BAD).well(WATER, 0).is(30).well(WATER, 60).is(0)
            .count(THE_WATER).is(60);
        // it rises to 60 and no farther, it is drawn to 0 and no lower
        new Well().well(BUCKET, 1).is(4).well(RISE, 1).well(WATER, 0).water(1).is(60).water(2).is(60).water(240).is(60);
        Well low = Well.at("0,0;p9").well(RISE, 40).well(BUCKET, 9);
        low.minutes(1).is(1).count(THE_WATER).is(0).minutes(60).is(26).count(THE_WATER).is(10).water(240).is(21);
    }

    private static void mud() {
        says("MUD (0 .. 20; 4 at first: as much of WATER cannot be drawn)");
        new Well().count(9).is(4).well(MUD, -1).is(BAD).well(MUD, 21).is(BAD).well(MUD, 0).is(4).well(MUD, 20).is(0).count(9).is(20);
        // 20 and MUD 20; 21 and MUD 20
        Well x = Well.at("19,20;p9").well(RISE, 40).minutes(1).is(0).count(THE_WATER).is(20).count(THE_WEAR).is(0);
        x.minutes(1).is(1).count(THE_WATER).is(20).count(THE_WEAR).is(1);
        // MUD far above WATER: nothing comes back into THE WELL
        Well y = Well.at("0,20;p9").minutes(1).is(0).count(THE_WATER).is(6).count(THE_TROUGH).is(0).count(THE_WEAR).is(0);
        y.minutes(2).is(0).count(THE_WATER).is(15).minutes(1).is(0).count(THE_WATER).is(19).minutes(1).is(2).count(THE_WATER).is(21);
        // 6 above MUD, the half bucket takes 4; then 2 and 1
        Well z = Well.at("10,4;p9").well(RISE, 40).well(BUCKET, 9).minutes(1).is(4).minutes(1).is(4).minutes(1).is(1);
        z.count(THE_WATER).is(4);
    }

    private static void rise() {
        says("RISE is 1 .. 40 (10 at first)");
        new Well().count(10).is(10).well(RISE, 0).is(BAD).well(RISE, 41).is(BAD).well(RISE, 1).is(10).well(RISE, 40).is(1).count(10).is(40);
        Well x = new Well().well(BUCKET, 1);
        x.well(RISE, 40).well(WATER, 20).is(30).water(1).is(21).water(2).is(21);
        x.well(WATER, 21).water(240).is(21);
        x.well(RISE, 1).water(1).is(60);
    }

    private static void theBucket() {
        says("THE BUCKET takes 1 .. 9 gallons (4 at first)");
        new Well().count(11).is(4).well(BUCKET, 0).is(BAD).well(BUCKET, 10).is(BAD).well(BUCKET, 1).is(4).well(BUCKET, 9).is(1).count(11).is(9);
        Well x = Well.at("60,0;p9").pull(0);
        x.well(BUCKET, 1).water(1).is(59).well(BUCKET, 9).water(1).is(51);
    }

    private static void theTrough() {
        says("THE TROUGH holds 24, is empty at first");
        Well x = Well.at("60,0;p1").count(THE_TROUGH).is(0).pull(0).well(BUCKET, 9);
        x.minutes(2).count(THE_TROUGH).is(18).well(BUCKET, 5).minutes(1).count(THE_TROUGH).is(23);
        x.well(BUCKET, 9).minutes(1).count(THE_TROUGH).is(24).count(THE_WATER).is(39).count(THE_WEAR).is(4).of(0, PULLED).is(4);
        x.minutes(1).count(THE_TROUGH).is(24).count(THE_WATER).is(41).count(THE_WEAR).is(4).of(0, PULLED).is(4);
        says("has PLACES (1 .. 7; 3 at first)");
        new Well().count(12).is(3).well(PLACES, 0).is(BAD).well(PLACES, 8).is(BAD).well(PLACES, 1).is(3).well(PLACES, 7).is(1).count(12).is(7);
        int[] gallons = {4, 6, 8, 10, 12, 14, 16};
        for (int places = 1; places <= 7; places++) {
            Well y = fullTrough().well(PLACES, places).minutes(1).is(gallons[places - 1]);
            y.of(places - 1, DRUNK).is(places == 1 ? 4 : 2);
            if (places < 7) {
                y.of(places, DRUNK).is(0);
            }
        }
        fullTrough().minutes(1).is(8);
    }

    /** A full TROUGH, nothing more is drawn; one PLAIN and six YOUNG have not DRUNK yet. */
    private static Well fullTrough() {
        Well x = new Well().well(WATER, 60).well(BUCKET, 9).beast(0, 9, 0).pull(0).minutes(3).count(THE_TROUGH).is(24);
        for (int b = 1; b < 7; b++) {
            x.beast(2, 9, 0).is(b);
        }
        return x.pull(NONE).well(BUCKET, 1);
    }

    private static void from() {
        says("FROM is 0 .. 60 (0 at first): it is drawn only if WATER is that at least");
        new Well().count(13).is(0).well(FROM, -1).is(BAD).well(FROM, 61).is(BAD).well(FROM, 60).is(0).well(FROM, 0).is(60).count(13).is(0);
        Well x = Well.at("60,0;p9").well(FROM, 60);
        x.minutes(1).is(2).count(THE_WATER).is(58).minutes(1).is(0).count(THE_WATER).is(58).count(THE_WEAR).is(1);
        // 51 behind the rise
        Well.at("50,0;p9").well(FROM, 51).minutes(1).is(2).count(THE_WEAR).is(1);
        Well.at("50,0;p9").well(FROM, 52).minutes(1).is(0).count(THE_WEAR).is(0);
        Well.at("0,0;p9").well(RISE, 40).minutes(1).is(1).well(FROM, 1).minutes(1).is(1).well(FROM, 2).minutes(1).is(0);
    }

    private static void wear() {
        says("THE ROPE has WEAR (0 at first), how many buckets it drew");
        new Well().count(THE_WEAR).is(0).minutes(1).count(THE_WEAR).is(1).minutes(60).count(THE_WEAR).is(12);
    }

    private static void beasts() {
        says("BEASTS 0 .. 6, as they come, are of a KIND, were DRY for DAYS (1 .. 9), are of HERD 0 or 1");
        Well x = new Well();
        for (int b = 0; b < 7; b++) {
            x.beast(b % 4, b + 1, b % 2).is(b);
        }
        x.beast(0, 1, 0).is(FULL).count(0).is(7);
        x.each(0, 0, 1, 2, 3, 0, 1, 2).each(1, 1, 2, 3, 4, 5, 6, 7).each(2, 0, 1, 0, 1, 0, 1, 0);
        Well y = new Well().beast(0, 0, 0).is(BAD).beast(0, 10, 0).is(BAD).beast(0, 1, -1).is(BAD).beast(0, 1, 2).is(BAD);
        y.beast(-1, 1, 0).is(BAD).beast(4, 1, 0).is(BAD).count(0).is(0);
        y.beast(0, 1, 0).is(0).beast(3, 9, 1).is(1).each(0, 0, 3).each(1, 1, 9).each(2, 0, 1);
        says("has DRUNK so many (0 at first), has PULLED so many buckets (0 at first)");
        y.each(DRUNK, 0, 0).each(PULLED, 0, 0);
        // one that comes later too, whatever the others did
        Well z = Well.at("60,0;p9,p1").pull(0).minutes(9).beast(0, 5, 0).is(2).each(DRUNK, 0, 3, 0).each(PULLED, 7, 0, 0);
        z.of(2, NEEDS).is(15);
        says("PULLER is one of them, or nobody (NONE, at first)");
        new Well().count(15).is(NONE).pull(0).is(BAD).pull(NONE).is(NONE);
        x.count(15).is(NONE).pull(6).is(NONE).pull(7).is(BAD).pull(-1).is(BAD).count(15).is(6).pull(0).is(6).pull(NONE).is(0);
    }

    private static void sated() {
        says("SATED: it has DRUNK no less than it NEEDS");
        Well x = Well.at("60,0;p1").minutes(1).is(2).of(0, SATED).is(0).count(SATED_SET).is(0);
        x.minutes(1).is(1).of(0, DRUNK).is(3).of(0, SATED).is(1).count(SATED_SET).is(1).minutes(1).is(0);
        // two buckets PULLED leave it SATED, the third does not
        x.pull(0).minutes(2).of(0, PULLED).is(2).of(0, SATED).is(1).minutes(1).of(0, NEEDS).is(4).of(0, SATED).is(0);
        x.pull(NONE).minutes(1).is(1).of(0, SATED).is(1);
    }

    private static void kinds() {
        says("0 PLAIN: NEEDS 3 a DAY, and 1 more for each 3 it PULLED; drinks 4 in a MINUTE");
        Well.at("60,0;p1,p9").each(NEEDS, 3, 27).each(DRINKS, 4, 4);
        Well x = dripping();
        int[] needs = {27, 27, 27, 28, 28, 28, 29};
        for (int k = 0; k < needs.length; k++) {
            x.of(0, PULLED).is(k).of(0, NEEDS).is(needs[k]).minutes(1);
        }
        // 5 in THE TROUGH: 4, then 1
        Well.at("60,0;p9,p1").pull(1).well(BUCKET, 5).minutes(1).is(4).count(THE_TROUGH).is(1);
        says("1 MILK: NEEDS 5 more");
        Well.at("60,0;m1,m9").each(NEEDS, 8, 32).each(DRINKS, 4, 4);
        Well.at("60,0;m1,p9").pull(0).minutes(3).of(0, NEEDS).is(9);
        says("2 YOUNG (below PLAIN): drinks half as much");
        Well.at("60,0;y1,y9").each(NEEDS, 3, 27).each(DRINKS, 2, 2).well(BUCKET, 9).minutes(1).is(4).each(DRUNK, 2, 2);
        Well.at("60,0;y1,p9").pull(0).minutes(3).of(0, NEEDS).is(4);
        says("3 GREEDY (below MILK): drinks twice as much as one of MILK");
        Well.at("60,0;g1,g9").each(NEEDS, 8, 32).each(DRINKS, 8, 8).pull(0).well(BUCKET, 9).minutes(1).is(8).count(THE_TROUGH).is(1);
        Well.at("60,0;g1,p9").pull(0).minutes(3).of(0, NEEDS).is(9);
    }

    /** The first one PULLS, the second is GREEDY and drinks what each bucket takes, up to 8. */
    private static Well greedy() {
        return Well.at("60,0;p9,g9").well(RISE, 1).pull(0);
    }

    private static void swollen() {
        says("has it DRUNK 12 or more in MINUTES one behind another");
        // 11, 12; 6 and 6; 8 and 3 and 1; 8 and 8
        greedy().well(BUCKET, 8).minutes(1).well(BUCKET, 3).minutes(1).of(1, DRUNK).is(11).of(1, SWOLLEN).is(0)
            .well(BUCKET, 1).minutes(1).of(1, DRUNK).is(12).of(1, SWOLLEN).is(5);
        greedy().well(BUCKET, 6).minutes(1).of(1, SWOLLEN).is(0).minutes(1).of(1, DRUNK).is(12).of(1, SWOLLEN).is(5);
        greedy().well(BUCKET, 8).minutes(1).of(1, SWOLLEN).is(0).minutes(1).of(1, DRUNK).is(16).of(1, SWOLLEN).is(5);
        greedy().well(BUCKET, 1).minutes(11).of(1, SWOLLEN).is(0).minutes(1).of(1, DRUNK).is(12).of(1, SWOLLEN).is(5);
        // a MINUTE that it PULLS, that nothing is drawn, that another has the only place
        greedy().well(BUCKET, 8).minutes(1).pull(1).minutes(1).of(1, DRUNK).is(8).pull(0).minutes(1).of(1, DRUNK).is(16).of(1, SWOLLEN).is(0)
            .minutes(1).of(1, DRUNK).is(24).of(1, SWOLLEN).is(5);
        greedy().well(BUCKET, 8).minutes(1).well(WATER, 0).well(RISE, 40).well(FROM, 60).minutes(1).is(0)
            .well(FROM, 0).well(WATER, 60).minutes(1).is(8).of(1, SWOLLEN).is(0).minutes(1).is(8).of(1, SWOLLEN).is(5);
        Well x = Well.at("60,0;p9,g8,m9").well(RISE, 1).pull(0).well(BUCKET, 8).well(PLACES, 1);
        x.minutes(1).is(8).well(LAW, 1).minutes(1).is(4).each(DRUNK, 0, 8, 4).well(LAW, 0).minutes(1).is(8).of(1, SWOLLEN).is(0)
            .minutes(1).is(8).of(1, SWOLLEN).is(5);
        // such a MINUTE leaves nothing of what was: 8, nothing, 8 and 3; nothing, 8 and 3
        for (int drunk : new int[] {8, 0}) {
            Well w = greedy().well(BUCKET, 8);
            if (drunk > 0) {
                w.minutes(1).is(drunk);
            }
            w.well(FROM, 60).well(WATER, 0).well(RISE, 40).minutes(1).is(0).well(WATER, 60).well(FROM, 0).minutes(1).is(8);
            w.well(BUCKET, 3).minutes(1).is(3).of(1, SWOLLEN).is(0).well(BUCKET, 1).minutes(1).is(1).of(1, SWOLLEN).is(5).of(1, DRUNK).is(drunk + 12);
        }
        // of no other KIND
        Well.at("60,0;p9,m9,p9,y9").well(RISE, 1).well(BUCKET, 9).pull(0).minutes(9).each(SWOLLEN, 0, 0, 0, 0);
        says("it is SWOLLEN in the next 5 (it begins anew then)");
        Well y = greedy().well(BUCKET, 8).minutes(2).of(1, DRUNK).is(16);
        for (int left = 5; left > 0; left--) {
            y.of(1, SWOLLEN).is(left).minutes(1).is(0);
        }
        // 4 of the 16 don't count on: 8 more, then 16
        y.of(1, SWOLLEN).is(0).minutes(1).is(8).of(1, SWOLLEN).is(0).minutes(1).is(8).of(1, SWOLLEN).is(5).of(1, SATED).is(1);
        y.minutes(5).of(1, SWOLLEN).is(0);
        Well z = greedy().well(BUCKET, 8).minutes(2).done(1).is(7).all().is(7);
        z.minutes(6).is(8).of(1, DRUNK).is(24);
    }

    private static void laws() {
        says("0 as they come");
        Well.at("50,4;p1b,g5,p9,m1b").line(0, 1, 2, 3).turn(4).is(BAD);
        says("1 who was DRY for more DAYS ahead, of like ones as they come");
        Well.at("50,4;p1,g5,p9,m1b,y9b,p5b,p2").well(LAW, 1).is(0).line(2, 4, 1, 5, 6, 0, 3);
        says("2 those of MILK, GREEDY ones ahead, then as they come");
        Well.at("50,4;p9,m1,y9,g9,m9,p1,g1b").well(LAW, 2).line(1, 3, 4, 6, 0, 2, 5);
        Well.at("50,4;g1,m9").well(LAW, 2).line(0, 1);
        Well.at("50,4;m1,g9").well(LAW, 2).line(0, 1);
        says("3 by turns: one of HERD 0, one of HERD 1, .., each HERD as they come, what is left of one behind (0 at first)");
        new Well().count(14).is(0).well(LAW, -1).is(BAD).well(LAW, 4).is(BAD).well(LAW, 3).is(0).count(14).is(3);
        Well.at("50,4;p1b,p2b,p3b,y4").well(LAW, 3).line(3, 0, 1, 2);
        Well.at("50,4;p1b,p1,p1,p1,p1").well(LAW, 3).line(1, 0, 2, 3, 4);
        Well.at("50,4;p1b,p1b,p1b").well(LAW, 3).line(0, 1, 2);
        Well.at("50,4;p1,p1,p1").well(LAW, 3).line(0, 1, 2);
        Well.at("50,4;p1,p1,p1,p1b,p1b,p1b,p1b").well(LAW, 3).line(0, 3, 1, 4, 2, 5, 6);
        Well.at("50,4;p1").well(LAW, 3).line(0).turn(1).is(BAD);
    }

    private static void minuteRises() {
        says("A MINUTE: THE WELL has (60 less WATER) by RISE more");
        Well x = Well.at("60,0;p9").well(BUCKET, 1);
        x.water(1).is(60).well(WATER, 51).water(1).is(51).well(WATER, 50).water(1).is(51).well(WATER, 0).water(1).is(6);
        x.well(RISE, 40).well(WATER, 20).water(1).is(21).well(WATER, 21).water(1).is(21);
        // also while nothing can be drawn, and ahead of the bucket: 50 .. 51 .. 49
        x.well(RISE, 10).well(BUCKET, 4).well(WATER, 50).minutes(1).is(2).count(THE_WATER).is(49);
        says("Then it is the next MINUTE");
        x.count(THE_MINUTE).is(1).minutes(60).count(THE_MINUTE).is(61);
    }

    private static void minuteDraws() {
        says("if THE ROPE is not SPLICED in this MINUTE and WATER is no less than FROM, a bucket is drawn");
        Well x = dripping().minutes(9).seed(0).drift(1).is(1).count(SPLICED).is(3);
        x.minutes(1).is(0).minutes(1).is(0).minutes(1).is(0).count(THE_WEAR).is(0).minutes(1).is(1).count(THE_WEAR).is(1);
        Well.at("50,0;p9").well(FROM, 51).minutes(1).is(2).well(FROM, 50).minutes(1).is(2).well(FROM, 50).minutes(1).is(0);
        says("as much as THE BUCKET takes (half of it, if nobody PULLS)");
        int[] half = {0, 1, 1, 2, 2, 3, 3, 4, 4};
        Well y = Well.at("60,0;p9");
        for (int size = 1; size <= 9; size++) {
            y.well(BUCKET, size).pull(NONE);
            y.water(1).is(60 - half[size - 1]).pull(0).water(1).is(60 - size);
        }
        says("no more than WATER above MUD, than THE TROUGH has room for");
        Well z = Well.at("8,4;p9").well(RISE, 40).well(BUCKET, 9).pull(0).minutes(1).count(THE_WATER).is(4).count(THE_TROUGH).is(5);
        z.well(WATER, 60).minutes(2).count(THE_TROUGH).is(23).minutes(1).count(THE_TROUGH).is(24).count(THE_WATER).is(41);
        // both at once: 2 above MUD, room for 3; 3 above MUD, room for 1
        Well w = Well.at("60,0;p9").well(BUCKET, 7).pull(0).minutes(3).count(THE_TROUGH).is(21);
        w.well(RISE, 40).well(WATER, 5).well(MUD, 4).minutes(1).count(THE_TROUGH).is(23).count(THE_WATER).is(4);
        w.well(WATER, 6).minutes(1).count(THE_TROUGH).is(24).count(THE_WATER).is(6);
    }

    private static void minuteDrawsNothing() {
        says("if that is not 0, THE ROPE has 1 more WEAR, PULLER 1 more PULLED");
        // nothing above MUD; no room; below FROM; half of 1
        Well.at("19,20;p9").well(RISE, 40).pull(0).minutes(1).count(THE_WEAR).is(0).of(0, PULLED).is(0)
            .minutes(1).count(THE_WEAR).is(1).of(0, PULLED).is(1);
        Well.at("60,0;p9").well(BUCKET, 8).pull(0).minutes(3).count(THE_TROUGH).is(24).minutes(5).count(THE_WEAR).is(3).of(0, PULLED).is(3);
        Well.at("50,0;p9").well(FROM, 60).pull(0).minutes(5).count(THE_WEAR).is(0).of(0, PULLED).is(0);
        Well.at("60,0;p9").well(BUCKET, 1).minutes(5).count(THE_WEAR).is(0).of(0, PULLED).is(0);
        // nobody PULLS: nobody has PULLED; of a gallon a bucket is one as of nine
        Well.at("60,0;p9,p9").minutes(5).count(THE_WEAR).is(5).each(PULLED, 0, 0);
        Well.at("60,0;p9,p9").well(BUCKET, 1).pull(1).minutes(5).count(THE_WEAR).is(5).each(PULLED, 0, 5);
    }

    private static void minuteWaters() {
        says("the first ones that are not SATED, not SWOLLEN, do not PULL, as many as PLACES");
        // the first is SATED; is SWOLLEN; PULLS: the second has the only place
        Well.at("60,0;p1,p9,p9").well(PLACES, 1).well(BUCKET, 8).minutes(1).is(3).minutes(1).is(4).each(DRUNK, 3, 4, 0);
        Well.at("60,0;g9,p9,p9").well(PLACES, 1).well(BUCKET, 8).minutes(3).is(12).minutes(1).is(4).each(DRUNK, 12, 4, 0);
        Well.at("60,0;p9,p9,p9").well(PLACES, 1).pull(0).minutes(1).is(4).each(DRUNK, 0, 4, 0);
        // more places than there are to take them
        Well.at("60,0;p9,p1").well(PLACES, 7).pull(0).minutes(1).is(3).minutes(1).is(0);
        new Well().well(PLACES, 7).minutes(60).is(0);
        says("one behind the other: each drinks what it drinks in a MINUTE, no more than it NEEDS yet, than is in THE TROUGH");
        // 9: 3 that it NEEDS, 4 that it drinks, 2 that are there, nothing
        Well x = Well.at("60,0;p1,p9,p9,p9,p1").well(PLACES, 7).well(BUCKET, 9).pull(4).minutes(1).is(9).each(DRUNK, 3, 4, 2, 0, 0);
        x.count(THE_TROUGH).is(0);
    }

    // ---- 2

    private static void foretoldChangesNothing() {
        says("FORETOLD from now (nothing is changed)");
        leavesAll(BoundsOfTermsTest::busy, x -> x.water(240).done(2).all().height(0).height(1));
        leavesAll(BoundsOfTermsTest::busy, x -> x.pulls(0).pulls(1).waits(0, 1).waits(1, 3));
        leavesAll(BoundsOfTermsTest::busy, x -> x.least(0).least(1).both(0).both(1).wholly(240, 0).wholly(5, 1));
        leavesAll(BoundsOfTermsTest::busy, x -> x.drank(20, 0).drank(20, 1).holds(240).buckets(0, 0, 0, 2));
        // foretold is what then comes, SPLICED and SWOLLEN as it is now
        Well x = new Well();
        busy(x);
        int[] water = {18, 22, 25, 28, 25};
        for (int n = 0; n < water.length; n++) {
            x.water(n).is(water[n]);
        }
        int done = x.done(1).got();
        x.of(1, SWOLLEN).is(4).minutes(done - 1).of(1, SATED).is(0).minutes(1).of(1, SATED).is(1);
    }

    private static void foretoldWater() {
        says("behind n MINUTES (0 .. 240): WATER");
        Well x = Well.at("7,0;p9,m9,g9").well(BUCKET, 8).water(-1).is(BAD).water(241).is(BAD).water(LOWEST).is(BAD).water(HIGHEST).is(BAD);
        x.water(0).is(7).water(1).is(8).water(240).is(51).count(THE_MINUTE).is(0);
        int later = x.water(239).got();
        x.minutes(60).minutes(60).minutes(60).minutes(59).count(THE_WATER).is(later).minutes(1).count(THE_WATER).is(51);
        // 1 each MINUTE to the last: 240 .. 239
        Well y = Well.at("60,0;m9,m9,m9,m9,m9,m9,m9").well(RISE, 40).well(BUCKET, 2).well(WATER, 60);
        y.water(59).is(20).water(60).is(20);
    }

    /** 221 gallons are NEEDED; a MINUTE gives 1 of them once WATER, by 1 a MINUTE, has risen above MUD. */
    private static Well slow(int water) {
        return Well.at(water + ",20;m9,m9,m9,m9,m9,m9,m8").well(RISE, 40);
    }

    private static void foretoldDone() {
        says("DONE: the first of 0 to 240 MINUTES behind which one is SATED");
        slow(1).done(6).is(240).done(5).is(211);
        slow(0).done(6).is(NONE).done(5).is(212);
        slow(2).done(6).is(239);
        Well x = Well.at("60,0;p1,p9").done(0).is(2).minutes(1).done(0).is(1).minutes(1).done(0).is(0);
        // while nothing else goes on: the first is SWOLLEN for 2 MINUTES yet, THE WELL and THE TROUGH are full
        Well.at("60,0;g9,p9").well(BUCKET, 9).pull(1).minutes(5).of(0, SWOLLEN).is(2).count(THE_TROUGH).is(24).well(WATER, 60).done(0).is(4).all().is(4);
        // a gallon that is drawn, one that is DRUNK and nothing else
        Well.at("60,0;p9").well(BUCKET, 1).pull(0).water(1).is(59).water(2).is(58).water(9).is(51);
        Well.at("60,0;p9,p1").well(BUCKET, 1).pull(0).water(1).is(59).water(2).is(58).done(1).is(3);
        Well.at("60,0;y1,p1,p9").well(BUCKET, 9).well(PLACES, 1).pull(2).minutes(1).is(2).well(FROM, 60).done(0).is(1).done(1).is(2).all().is(2);
        // the first: by PULLING it is not SATED for ever
        x.pull(0).done(0).is(0).minutes(3).of(0, SATED).is(0).done(0).is(NONE);
    }

    private static void foretoldAll() {
        says("ALL: behind which all but PULLER are (0 also without any)");
        new Well().all().is(0);
        Well.at("60,0;p9").all().is(14).pull(0).all().is(0);
        slow(1).all().is(240);
        slow(0).all().is(NONE).pull(6).all().is(212);
        // at once SATED: the first is no longer when the second is, as it PULLS; then it is asked for again
        Well x = Well.at("60,0;p1,p9").minutes(2).pull(0).minutes(3).of(0, SATED).is(0).all().is(4).pull(1).all().is(1);
    }

    private static void height() {
        says("HEIGHT: FROM (0 .. 60) by which ALL is soonest, of like ones the least; when");
        new Well().height(0).is(0).height(1).is(0);
        Well x = Well.at("50,4;p2").well(FROM, 60).all().is(NONE).height(0).is(0).height(1).is(3).count(13).is(60);
        x.minutes(3).well(FROM, 0).minutes(3).height(0).is(0).height(1).is(0);
        // 57 and no less: a GREEDY one swells less if it waits
        Well y = Well.at("44,18;p9b,g8").well(RISE, 2).pull(0).all().is(16).height(0).is(57).height(1).is(13);
        y.well(FROM, 57).all().is(13).well(FROM, 56);
        Due.holds(Doc.where() + ": by 56 it is later", y.all().got() > 13);
        y.well(FROM, 58);
        Due.holds(Doc.where() + ": by 58 it is no sooner", y.all().got() == NONE || y.all().got() >= 13);
    }

    private static void pulls() {
        says("PULLS: who should PULL (nobody ahead of 0, 1, ..), so that ALL is soonest, of like ones the first; when");
        new Well().pulls(0).is(7).pulls(1).is(0);
        // 3 MINUTES whoever PULLS, or nobody
        Well.at("9,0;y2,y2b").well(BUCKET, 9).pulls(0).is(7).pulls(1).is(3).pull(1).pulls(0).is(7).count(15).is(1);
        Well.at("50,4;p1,p1").pulls(0).is(0).pulls(1).is(1);
        Well.at("50,4;p1,p1,p2").pulls(0).is(2).pulls(1).is(2);
        Well.at("50,4;p1,p1,p1,p1,p1,p1,p9").pulls(0).is(6).pulls(1).is(5);
        Well.at("50,4;p9").pulls(0).is(0).pulls(1).is(0);
        // nobody PULLS half a bucket: 6 MINUTES for 12 gallons; one that PULLS: 3 for the other's 6
        Well.at("60,0;y2,y2").pulls(0).is(0).pulls(1).is(3).all().is(6);
        // one that is not there can't PULL, though a whole bucket for all three would do in 9
        Well.at("15,14;g7b,m7,g3").well(RISE, 9).well(BUCKET, 8).well(LAW, 1).minutes(5).pulls(0).is(1).pulls(1).is(11);
        Well.at("50,4;p1,p1").minutes(3).count(SATED_SET).is(3).pulls(0).is(7).pulls(1).is(0);
    }

    private static void notIn240() {
        says("Of those by which it is not in 240: none");
        // height: by none; by 241; by 0 .. 21 alone
        Well.at("60,0;p9").well(BUCKET, 1).height(0).is(NONE).height(1).is(NONE);
        slow(1).height(0).is(0).height(1).is(240);
        slow(0).height(0).is(NONE).height(1).is(NONE);
        // pulls: nobody draws nothing by half of 1; 240 gallons and one more
        Well.at("60,0;p9,p9").well(BUCKET, 1).pulls(0).is(0).pulls(1).is(27);
        Well.at("0,0;p9,p1").well(FROM, 60).well(BUCKET, 1).pulls(0).is(NONE).pulls(1).is(NONE);
        slow(1).pulls(1).is(208);
    }

    private static void waits() {
        says("MINUTES till each of its BEASTS is DONE, added (240 for one that is not; PULLER counts 0)");
        new Well().waits(0, 0).is(0).waits(1, 3).is(0);
        Well.at("60,0;p1,p1,p1b").waits(0, 0).is(5).waits(1, 0).is(5).minutes(60).waits(0, 0).is(0).waits(1, 0).is(0);
        Well x = Well.at("60,0;p9,p9,p9b").well(BUCKET, 1).waits(0, 0).is(480).waits(1, 0).is(240);
        x.pull(2).waits(1, 0).is(0).waits(0, 0).is(81).pull(0).waits(0, 0).is(27).waits(1, 0).is(54);
        // one that is SATED and PULLS counts 0, one that never is as well
        Well.at("60,0;p1").minutes(2).pull(0).waits(0, 0).is(0);
        slow(1).waits(0, 0).is(51 + 83 + 115 + 147 + 179 + 211 + 240).waits(1, 0).is(0);
        slow(0).waits(0, 0).is(52 + 84 + 116 + 148 + 180 + 212 + 240);
    }

    private static void least() {
        says("LEAST: the LAW by which WAITS of both HERDS together are least, of like ones the first");
        new Well().least(0).is(0).least(1).is(0);
        // all alike; 1, 2, 3 alone: each unlike the ones ahead of it
        Well.at("60,0;p5,p5,p5").well(LAW, 3).least(0).is(0).least(1).is(8 + 15 + 23).count(14).is(3);
        Well.at("60,0;y1,p2").well(PLACES, 1).least(0).is(0).least(1).is(2 + 5);
        Well.at("60,0;p9,m1").least(0).is(2).least(1).is(4 + 18);
        Well.at("60,0;p9b,p1").least(0).is(3).least(1).is(2 + 15);
        // by 0 and 3 alike, by 1 and 2 more
        Well.at("60,0;p1,m9b").least(0).is(0).least(1).is(2 + 18);
        Well.at("60,0;p9,p9").well(BUCKET, 1).least(0).is(0).least(1).is(480);
    }

    private static void both() {
        says("BOTH: the LAW by which the greater WAITS of the two are least, of like ones the first");
        new Well().both(0).is(0).both(1).is(0);
        // 14 and 15 by 0; 2 and 15 by 3: the greater is 15 each time
        Well.at("60,0;p9b,p1").both(0).is(0).both(1).is(15).least(0).is(3);
        Well.at("60,0;p5,p5b").well(LAW, 2).both(0).is(0).both(1).is(15).count(14).is(2);
        Well.at("60,0;p9,p9b").well(BUCKET, 1).both(0).is(0).both(1).is(240);
        // HERD 1 has the greater WAITS: 7 + 11 by 0, 6 + 11 by 3; by 2 it is HERD 0: 10 + 11
        Well.at("60,0;p1,p1,m1b,m1b").both(0).is(3).both(1).is(17).waits(1, 0).is(18).waits(0, 2).is(21).least(0).is(0);
    }

    private static void wholly() {
        says("WHOLLY in n MINUTES: which BEASTS (a set; not PULLER) should be let to THE TROUGH alone, so that most are SATED behind these, of like ones the least set; how many of all are");
        new Well().wholly(0, 0).is(0).wholly(0, 1).is(0).wholly(240, 0).is(0).wholly(240, 1).is(0);
        // 2 gallons a MINUTE: none, the second, the first, both
        Well x = Well.at("60,0;p2,p1");
        int[] set = {0, 0, 2, 1, 1, 3};
        int[] many = {0, 0, 1, 1, 1, 2};
        for (int n = 0; n < set.length; n++) {
            x.wholly(n, 0).is(set[n]).wholly(n, 1).is(many[n]);
        }
        x.wholly(240, 0).is(3).wholly(241, 0).is(BAD).wholly(-1, 0).is(BAD);
        // those that are SATED now need not be let there
        x.minutes(3).wholly(0, 0).is(0).wholly(0, 1).is(1).wholly(9, 0).is(2).wholly(9, 1).is(2);
        // PULLER is in no set, and is counted where it is SATED
        Well y = Well.at("60,0;p1,p1,p1").minutes(2).pull(0).wholly(0, 0).is(0).wholly(0, 1).is(1);
        y.wholly(1, 0).is(2).wholly(1, 1).is(2).wholly(2, 0).is(6).wholly(2, 1).is(3).wholly(3, 0).is(6).wholly(3, 1).is(2);
        y.pull(2).wholly(240, 0).is(2).wholly(240, 1).is(2);
        slow(1).wholly(240, 0).is(127).wholly(240, 1).is(7).wholly(239, 0).is(63).wholly(239, 1).is(6);
    }

    private static void drank() {
        says("DRANK: sets of BEASTS whose NEEDS yet together are v: how many; the least; none");
        new Well().drank(0, 0).is(1).drank(0, 1).is(0).drank(1, 0).is(0).drank(1, 1).is(NONE);
        Well x = Well.at("60,0;p1,p2,p3").drank(0, 0).is(1).drank(0, 1).is(0).drank(9, 0).is(2).drank(9, 1).is(3);
        x.drank(18, 0).is(1).drank(18, 1).is(7).drank(19, 0).is(0).drank(19, 1).is(NONE).drank(999, 0).is(0).drank(999, 1).is(NONE);
        // NEEDS yet: less what it has DRUNK, with what PULLING adds; a SATED one is in sets of 0
        x.pull(1).minutes(1).drank(0, 0).is(2).drank(0, 1).is(0).drank(6, 0).is(2).drank(6, 1).is(2);
        x.minutes(2).drank(7, 0).is(4).drank(7, 1).is(2).drank(6, 0).is(0).drank(0, 0).is(4);
        // all seven are SATED: 128 sets of nothing
        Well.at("60,0;p1,p1,p1,p1,p1,p1,p1").minutes(60).drank(0, 0).is(128).drank(0, 1).is(0).drank(1, 0).is(0);
        Well.at("60,0;m9,m9,m9,m9,m9,m9,m9").drank(224, 0).is(1).drank(224, 1).is(127).drank(225, 0).is(0).drank(32, 0).is(7).drank(32, 1).is(1);
    }

    private static void holds() {
        says("behind each bucket THE ROPE breaks by as many of 100 as a tenth of WEAR (100 at most)");
        new Well().holds(9).is(1000000).holds(10).is(990000);
        dripping().minutes(8).holds(1).is(1000000).holds(2).is(990000).minutes(1).holds(0).is(1000000).holds(1).is(990000);
        // A rope can't come to a WEAR of 1000 (gallons NEEDED are too few): as worn as it gets, few hold
        Well x = Well.at("60,0;m9,m9,m9,m9,m9,m9,m9").well(RISE, 1).well(BUCKET, 1).pull(0);
        x.minutesTimes(4, 60).count(THE_WEAR).is(216).holds(1).is(790000).holds(3).is(493039).holds(4).is(384570).holds(240).is(0);
        x.pull(1).minutesTimes(2, 60).pull(0).minutesTimes(2, 60).pull(1).minutesTimes(2, 60);
        x.count(THE_WEAR).is(216 + 104 + 34 + 11).holds(1).is(640000).holds(240).is(0);
        says("how many of a MILLION ropes hold n more buckets (0 .. 240)");
        new Well().holds(-1).is(BAD).holds(241).is(BAD).holds(0).is(1000000).holds(240).is(0);
        says("a MILLION, times (100 less those), by 100, cut each time, WEAR 1 more ahead of each");
        // 990000, 980100, 970299, 960596 (.01), 950990 (.04), 941480 (.1), ..
        new Well().holds(11).is(980100).holds(12).is(970299).holds(13).is(960596).holds(14).is(950990).holds(15).is(941480);
        long ropes = 1000000;
        Well y = new Well();
        for (int n = 1; n <= 240; n++) {
            ropes = ropes * (100 - n / 10) / 100;
            y.holds(n).is((int) ropes);
        }
    }

    // ---- 3

    private static void buckets() {
        says("a row tells WATER behind MINUTES: sizes of THE BUCKET (1 .. 9, bits 1 .. 9) by which it would be so");
        Well x = Well.at("60,0;p9").pull(0);
        for (int size = 1; size <= 9; size++) {
            x.row(0, 0, 1, 60 - size).buckets(0, 0, 0, 1).is(1 << size);
        }
        x.row(0, 0, 1, 60).buckets(0, 0, 0, 1).is(0).row(0, 0, 1, 50).buckets(0, 0, 0, 1).is(0);
        x.row(0, 0, 0, 60).buckets(0, 0, 0, 1).is(ALL_SIZES).row(0, 0, 0, 59).buckets(0, 0, 0, 1).is(0).count(11).is(4);
        // nobody PULLS: half of 1, of 2 and 3, of 4 and 5, ..
        x.pull(NONE).row(0, 0, 1, 60).buckets(0, 0, 0, 1).is(1 << 1).row(0, 0, 1, 59).buckets(0, 0, 0, 1).is(1 << 2 | 1 << 3);
        x.row(0, 0, 1, 56).buckets(0, 0, 0, 1).is(1 << 8 | 1 << 9).row(0, 0, 1, 55).buckets(0, 0, 0, 1).is(0);
        // behind the last of 240 MINUTES: by 1 nothing is drawn at all
        x.row(0, 1, 240, 60).buckets(0, 1, 0, 1).is(1 << 1).row(0, 1, 240, 51).buckets(0, 1, 0, 1).is(ALL_SIZES - 2);
    }

    private static void undoneKnown() {
        says("UNDONE: the latest MINUTE is as it had not been (8 are known, older ones lost)");
        new Well().count(KNOWN).is(0).undo().is(NONE);
        Well x = new Well().minutes(1).count(KNOWN).is(1).undo().is(0).undo().is(NONE).count(THE_MINUTE).is(0);
        x.minutes(7).count(KNOWN).is(7).minutes(1).count(KNOWN).is(8).minutes(1).count(KNOWN).is(8);
        for (int left = 7; left >= 0; left--) {
            x.undo().is(left).count(THE_MINUTE).is(1 + left);
        }
        x.undo().is(NONE).count(THE_MINUTE).is(1);
        // again and again, past the place where the eighth stood
        for (int k = 0; k < 12; k++) {
            x.minutes(5).undo().undo().is(k == 0 ? 3 : 6).count(THE_MINUTE).is(4 + 3 * k);
        }
        Well y = new Well().minutes(60).count(KNOWN).is(8).drift(60).count(KNOWN).is(8).undo().is(7).count(THE_MINUTE).is(119);
        y.minutes(3).drift(3).count(KNOWN).is(8);
    }

    private static void undoneGivesBack() {
        says("WATER, THE TROUGH, WEAR, how long it is SPLICED, who has DRUNK, PULLED how much, who is SWOLLEN, THE MINUTE, THE DRAW are as ahead of it, whatever was done since");
        Well x = Well.at("60,0;p9,g9,p9b,m9b").well(BUCKET, 6).pull(0).minutes(9).seed(0).is(1);
        List<Integer> ahead = x.look();
        x.drift(1).is(1).count(SPLICED).is(3).count(THE_WEAR).is(0);
        x.well(WATER, 3).seed(5).undo().is(7);
        // of what look tells only how many are known is otherwise: 7 of 8
        List<Integer> back = x.look();
        Due.is(Doc.where() + ": known", back.set(KNOWN, ahead.get(KNOWN)), 7);
        Due.holds(Doc.where() + ": " + ahead + " and " + back, ahead.equals(back));
        x.of(1, DRUNK).is(24).of(1, SWOLLEN).is(5).undo().is(6).of(1, DRUNK).is(18).of(1, SWOLLEN).is(0).of(0, PULLED).is(8);
        x.minutes(1).is(6).of(1, SWOLLEN).is(5);
        // what is in THE TROUGH
        Well t = Well.at("60,0;p9,y9").pull(0).minutes(1).count(THE_TROUGH).is(2).minutes(1).count(THE_TROUGH).is(4);
        t.undo().count(THE_TROUGH).is(2).undo().count(THE_TROUGH).is(0).count(THE_WATER).is(60).count(THE_WEAR).is(0).each(DRUNK, 0, 0);
        // ahead of the first drop nothing counts for being SWOLLEN
        Well y = greedy().well(BUCKET, 8).minutes(1).undo().is(0).minutes(1).is(8).of(1, SWOLLEN).is(0).minutes(1).of(1, SWOLLEN).is(5);
        y.minutes(2).of(1, SWOLLEN).is(3).undo().of(1, SWOLLEN).is(4).undo().of(1, SWOLLEN).is(5).undo().of(1, SWOLLEN).is(0);
        // all else stays as it is now
        Well z = new Well().beast(0, 9, 0).minutes(1).well(MUD, 9).well(RISE, 9).well(BUCKET, 9).well(PLACES, 6).well(FROM, 9).well(LAW, 1);
        z.pull(0).undo().is(0).count(9).is(9).count(10).is(9).count(11).is(9).count(12).is(6).count(13).is(9).count(14).is(1).count(15).is(0);
    }

    private static void undoneLeaves() {
        says("a CARAVAN, a new BEAST leave nothing to be UNDONE");
        Well x = new Well().minutes(5).reads("1,1;p1").is(1).count(KNOWN).is(0).undo().is(NONE).count(THE_WATER).is(1);
        x.minutes(5).beast(0, 1, 0).is(1).count(KNOWN).is(0).undo().is(NONE).count(THE_MINUTE).is(5);
        // a FAULT, a BEAST that is refused do
        x.minutes(2).reads("1,1;").is(-24).count(KNOWN).is(2).beast(0, 0, 0).is(BAD).count(KNOWN).is(2).undo().is(1);
        Well full = Well.at("1,1;p1,p1,p1,p1,p1,p1,p1").minutes(2).beast(0, 1, 0).is(FULL).count(KNOWN).is(2).undo().is(1);
        full.undo().is(0).undo().is(NONE);
    }

    private static void draw() {
        says("THE DRAW is a number of 31 bits (1 at first)");
        new Well().seed(0).is(1).seed(HIGHEST).is(0).seed(0).is(HIGHEST);
        new Well().seed(-1).is(BAD).seed(LOWEST).is(BAD).seed(2).is(1);
        says("in a MINUTE of a DRIFT, behind a bucket drawn, it becomes the lowest 31 bits of itself times 1103515245 and 12345 more");
        int[] seeds = {0, 1, 2, 3, 1103527590, 59559187, HIGHEST, HIGHEST - 1, 1 << 30};
        int[] drawn = {12345, 1103527590, 59559187, 1163074432, 377401575, 1495354192, 1043980748, 2087949151, 1073754169};
        for (int k = 0; k < seeds.length; k++) {
            new Well().seed(seeds[k]).drift(1).is(0).seed(0).is(drawn[k]);
        }
        // not without a bucket: THE TROUGH is full, below FROM; not in MINUTES, not in what is foretold
        new Well().minutes(12).count(THE_TROUGH).is(24).seed(9).drift(5).is(0).seed(0).is(9);
        new Well().well(FROM, 60).seed(9).drift(5).is(0).seed(0).is(9);
        new Well().seed(9).minutes(5).water(60).seed(0).is(9);
        new Well().seed(9).drift(2).seed(0).is((int) next(next(9)));
    }

    private static void ropeBreaks() {
        says("if it by 65536, left over by 100, is less than a tenth of WEAR, THE ROPE breaks");
        // WEAR 9: a tenth is 0; 10: 0 is less than 1, 1 is not; 19 and 20: 1
        dripping().minutes(8).seed(seedFor(0)).drift(1).is(0).count(THE_WEAR).is(9);
        dripping().minutes(9).seed(seedFor(0)).drift(1).is(1).count(THE_WEAR).is(0);
        dripping().minutes(9).seed(seedFor(1)).drift(1).is(0).count(THE_WEAR).is(10);
        dripping().minutes(18).seed(seedFor(1)).drift(1).is(0).count(THE_WEAR).is(19);
        dripping().minutes(19).seed(seedFor(1)).drift(1).is(1).count(THE_WEAR).is(0);
        dripping().minutes(19).seed(seedFor(2)).drift(1).is(0).count(THE_WEAR).is(20);
        dripping().minutes(29).seed(seedFor(99)).drift(1).is(0).count(THE_WEAR).is(30);
        // a DRAW of 100 times 65536 leaves nothing over, one less leaves 99
        Well x = dripping().minutes(9).seed(before(100 * 65536)).drift(1).is(1);
        x.seed(0).is(100 * 65536);
        dripping().minutes(9).seed(before(100 * 65536 - 1)).drift(1).is(0).seed(0).is(100 * 65536 - 1);
        dripping().minutes(9).seed(before(65535)).drift(1).is(1).seed(0).is(65535);
        dripping().minutes(9).seed(before(65536)).drift(1).is(0).seed(0).is(65536);
        // in plain MINUTES it never does
        dripping().minutes(50).count(THE_WEAR).is(50).count(SPLICED).is(0);
    }

    /** The seed whose next DRAW is this: 1103515245 is odd, so there is one. */
    private static int before(long draw) {
        long inverse = 1;
        for (int k = 0; k < 5; k++) {
            inverse = inverse * (2 - 1103515245L * inverse);
        }
        return (int) ((draw - 12345L) * inverse & HIGHEST);
    }

    private static void ropeIsSpliced() {
        says("it is SPLICED in the next 3 MINUTES, WEAR is 0");
        Well x = dripping().minutes(9).seed(0).drift(1).is(1).count(THE_WEAR).is(0).count(THE_TROUGH).is(0).count(8).is(10);
        x.of(0, PULLED).is(10);
        for (int left = 3; left > 0; left--) {
            x.count(SPLICED).is(left).drift(1).is(0).count(THE_WEAR).is(0).count(8).is(10).seed(7).is(left == 3 ? 12345 : 7);
        }
        x.count(SPLICED).is(0).drift(1).is(0).count(THE_WEAR).is(1).count(8).is(11).seed(0).is((int) next(7));
        // foretold, in plain MINUTES, below FROM they pass as well
        Well y = Well.at("60,0;p9,p9,p9").well(BUCKET, 1).well(RISE, 40).pull(0).minutes(9).seed(0).drift(1).is(1).count(THE_WATER).is(50);
        y.water(3).is(50).water(4).is(49).well(FROM, 60).minutes(2).count(SPLICED).is(1).well(FROM, 0).minutes(1).count(SPLICED).is(0);
        y.count(THE_WATER).is(50).minutes(1).count(THE_WATER).is(49);
        // a new rope breaks again from its tenth bucket on: 10 and 3 MINUTES, and 10 more
        Well z = dripping().well(BUCKET, 1);
        int broke = 0;
        for (int k = 1; k <= 36; k++) {
            broke += z.seed(0).drift(1).got();
            z.count(SPLICED).is(k % 13 == 10 ? 3 : k % 13 == 11 ? 2 : k % 13 == 12 ? 1 : 0);
        }
        Due.is(Doc.where() + ": how often it broke", broke, 3);
    }

    private static void caravanNumbers() {
        says("a number 0 .. 60 (WATER), then , and a number 0 .. 20 (MUD)");
        Well x = new Well().reads("0,0;p1").is(1).count(THE_WATER).is(0).count(9).is(0);
        x.reads("60,20;p1").is(1).count(THE_WATER).is(60).count(9).is(20);
        x.reads("61,20;p1").is(-20).reads("60,21;p1").is(-23).reads("99,99;p1").is(-20).reads("9,99;p1").is(-22);
        x.reads("60;20;p1").is(-22).reads(",20;p1").is(-20).reads("60,;p1").is(-23).reads("-1,1;p1").is(-20);
        x.count(THE_WATER).is(60).count(9).is(20);
        x.reads("p1").is(-20).reads("5p1").is(-21).reads("5,p1").is(-22).reads(";p1").is(-20).reads("5;p1").is(-21);
        says("Numbers have 1 or 2 digits");
        x.reads("7,9;p1").is(1).count(THE_WATER).is(7).count(9).is(9).reads("07,09;p1").is(1).count(THE_WATER).is(7).count(9).is(9);
        x.reads("00,00;p1").is(1).reads("000,1;p1").is(-22).reads("1,000;p1").is(-24).reads("007,1;p1").is(-22).reads("100,1;p1").is(-22);
        x.reads("1,100;p1").is(-24).reads("610,1;p1").is(-20).reads("1,210;p1").is(-22);
    }

    private static void caravanBeasts() {
        says("then ; and 1 to 7 BEASTS with , between");
        Well x = new Well().reads("5,4;").is(-24).reads("5,4,").is(-23).reads("5,4").is(-23).reads("5,4p1").is(-23).count(0).is(0);
        x.reads("5,4;p1").is(1).count(0).is(1).reads("5,4;p1,p1,p1,p1,p1,p1,p1").is(7).count(0).is(7);
        x.reads("5,4;p1,p1,p1,p1,p1,p1,p1,p1").is(-44).reads("5,4;p1,p1,p1,p1,p1,p1,p1,").is(-44);
        x.reads("5,4;p1b,p1b,p1b,p1b,p1b,p1b,p1b,p1b").is(-51).reads("5,4;p1,").is(-27).reads("5,4;p1;p1").is(-26);
        x.reads("5,4;p1p1").is(-26).reads("5,4;,p1").is(-24).reads("5,4;p1,,p1").is(-27).count(0).is(7);
        says("p m y g (KINDS in this order), a digit 1 .. 9 (DAYS), perhaps b (HERD 1; else 0)");
        Well y = new Well().reads("5,4;p1,m9b,y5,g1b").is(4).each(0, 0, 1, 2, 3).each(1, 1, 9, 5, 1).each(2, 0, 1, 0, 1);
        y.reads("5,4;p0").is(-25).reads("5,4;p").is(-25).reads("5,4;pb").is(-25).reads("5,4;p10").is(-26).reads("5,4;p:").is(-25);
        y.reads("5,4;p/").is(-25).reads("5,4;P1").is(-24).reads("5,4;b1").is(-24).reads("5,4;1").is(-24).reads("5,4;p1B").is(-26);
        y.reads("5,4;p1bb").is(-27).reads("5,4;p1b1").is(-27).count(0).is(4);
    }

    private static void caravanReplaces() {
        says("in place of all BEASTS, of WATER, MUD; THE TROUGH is empty, WEAR 0, nothing is SPLICED, nobody PULLS, MINUTE 0 (all else stays)");
        Well x = Well.at("60,0;p9,g9,p9,m9").well(RISE, 7).well(BUCKET, 9).well(PLACES, 2).well(FROM, 8).well(LAW, 2).pull(0);
        x.image().minutes(9).seed(0).drift(1).is(1).count(SPLICED).is(3).seed(77).row(2, 1, 0, 33);
        x.reads("33,20;y2b,g1").is(2);
        int[] want = {2, 0, 33, 0, 0, 0, 0, 0, 0, 20, 7, 9, 2, 8, 2, NONE};
        for (int what = 0; what < want.length; what++) {
            x.count(what).is(want[what]);
        }
        x.each(0, 2, 3).each(1, 2, 1).each(2, 1, 0).each(DRUNK, 0, 0).each(PULLED, 0, 0).each(SWOLLEN, 0, 0).each(SATED, 0, 0);
        x.of(2, 0).is(BAD).seed(1).is(77).buckets(2, 1, 0, 1).is(ALL_SIZES).restore().is(1).count(0).is(4).count(THE_WATER).is(60);
        // what is in THE TROUGH, WEAR
        Well.at("60,0;p9").pull(0).minutes(5).count(THE_TROUGH).is(20).count(THE_WEAR).is(5).reads("60,0;p9").is(1)
            .count(THE_TROUGH).is(0).count(THE_WEAR).is(0).holds(9).is(1000000);
        // nothing of those that were there counts for the new ones
        Well y = greedy().well(BUCKET, 8).minutes(1).reads("60,0;p9,g9").pull(0).minutes(1).is(8).of(1, SWOLLEN).is(0);
        y.beast(0, 1, 0).is(2).of(2, DRUNK).is(0);
    }

    private static void faults() {
        says("FAULTS: -20 less the place of the first letter (behind blanks) that can't stand there, or of the number's first digit (the end: how many there are)");
        Well x = new Well().caravan().is(-20).reads("x").is(-20).reads("5x").is(-21).reads("5,x").is(-22).reads("5,4x").is(-23);
        x.reads("5").is(-21).reads("5,").is(-22).reads("5,4").is(-23).reads("5,4;").is(-24).reads("5,4;p").is(-25).reads("5,4;p1,").is(-27);
        x.reads("61").is(-20).reads("61x").is(-20).reads("5,21").is(-22).reads("5,21x").is(-22);
        x.reads("  x").is(-22).reads("5  x").is(-23).reads("  61,1;p1").is(-22).reads("5,  21;p1").is(-24);
        x.reads("   ").is(-23).reads("5 ").is(-22).reads("5,4;  ").is(-26).reads("5,4;p1x").is(-26).reads("5,4;p1 x").is(-27);
        x.reads("5,4;p1~").is(-26).reads("5,4;p1 1").is(-27);
        // the farthest place: 60 letters and the end behind them
        new Well().reads("5,4;p1,p1" + " ".repeat(50) + "x").is(-79);
        new Well().reads("5,4;p1," + " ".repeat(53)).is(-80);
    }

    private static void blanks() {
        says("blanks count for nothing, but end a number");
        Well x = new Well().reads("  5 , 4 ; p 1 b , y  2  ").is(2).count(THE_WATER).is(5).count(9).is(4).each(0, 0, 2).each(1, 1, 2).each(2, 1, 0);
        x.reads("6 0,1;p1").is(-22).reads("60,2 0;p1").is(-25).reads("6  0").is(-23).reads(" 60 ,20 ;p1").is(1).count(THE_WATER).is(60);
        x.reads("50,4;p1" + " ".repeat(53)).is(1).count(THE_WATER).is(50);
        new Well().reads(" ".repeat(53) + "50,4;p1").is(1);
    }

    private static void sheets() {
        says("sheets 0 .. 3: nothing (at first), or a row of a LANE: 0 bytes, 1 shorts, 2 ints, 3 longs, of 0 to 24 items");
        Well x = new Well();
        for (int s = 0; s < 4; s++) {
            x.drop(s).is(NULL).item(s, 0, 0, 0).is(NULL).sheet(s, s, 24).is(24).item(s, s, 23, 1).is(1).item(s, s, 24, 1).is(INDEX);
            x.sheet(s, s, 25).is(BAD).sheet(s, s, 0).is(0).item(s, s, 0, 1).is(INDEX).drop(s).is(0).drop(s).is(NULL);
        }
        x.sheet(-1, 0, 1).is(BAD).sheet(4, 0, 1).is(BAD).sheet(0, -1, 1).is(BAD).sheet(0, 4, 1).is(BAD);
        // a MINUTE of 127, 128, 240, and of the least number above each LANE's bits
        long[] most = {127, 240, 240, 240};
        long[] wraps = {1L << 8, 1L << 16, 1L << 32};
        for (int lane = 0; lane < 4; lane++) {
            x.row(0, lane, most[lane], x.water((int) most[lane]).got());
            Due.holds(Doc.where() + ": " + most[lane], x.buckets(0, lane, 0, 1).got() > 0);
            x.item(0, lane, 0, 128).buckets(0, lane, 0, 1);
            Due.is(Doc.where() + ": 128 in LANE " + lane, x.got() == NOT ? 1 : 0, lane == 0 ? 1 : 0);
            for (int k = 0; k < 3; k++) {
                x.row(0, lane, wraps[k], 30).buckets(0, lane, 0, 1).is(lane <= k ? ALL_SIZES : NOT);
            }
        }
    }
}
