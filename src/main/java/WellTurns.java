/** Forty camels at one well: the promises of DOC.md, by number. */
public final class WellTurns {
    public static final int BAD = -1, NOT = -2, FULL = -3, NONE = -4, NULL = -11, CAST = -12, INDEX = -13, SIZE = -14;

    private static final int PLAIN = 0, MILK = 1, YOUNG = 2, GREEDY = 3;
    private static final int LAST_LAW = 3;
    private static final int MOST_BEASTS = 7;
    private static final int MOST_WATER = 60, MOST_MUD = 20, MOST_DAYS = 9, MOST_BUCKET = 9;
    private static final int TROUGH_HOLDS = 24;
    private static final int SWELLS_AT = 12, SWOLLEN_FOR = 5, SPLICED_FOR = 3;
    private static final int LAST_MINUTE = 9999, MOST_AT_ONCE = 60;
    private static final int FORESEEN = 240;
    private static final int MILLION = 1000000, LOWEST_31_BITS = 0x7fffffff;
    private static final int EVERYONE = 127;
    private static final int NOBODY_SHOULD = 7;
    private static final int MOST_UNDONE = 8;
    private static final int MOST_LETTERS = 60, FIRST_LETTER = 32, LAST_LETTER = 126, FAULT = -20, END = -1;
    private static final int SHEETS = 4, LAST_LANE = 3, MOST_ITEMS = 24, MOST_SEEN = 8, NO_LANE = -1;

    /** By what of the call well: WATER, MUD, RISE, BUCKET, PLACES, FROM, LAW. */
    private static final int[] LOWEST = {0, 0, 1, 1, 1, 0, 0};
    private static final int[] HIGHEST = {60, 20, 40, 9, 7, 60, 3};

    private final Camp camp = new Camp();
    private final Moment moment = new Moment();
    private final Past past = new Past();

    private boolean hasImage;
    private final Camp keptCamp = new Camp();
    private final Moment keptMoment = new Moment();
    private final Past keptPast = new Past();

    /** What is foretold is played through on these, so that nothing is changed and nothing is made. */
    private final Camp trialCamp = new Camp();
    private final Moment trial = new Moment();
    private final int[] doneAt = new int[MOST_BEASTS];
    private final int[] seenMinute = new int[MOST_SEEN];
    private final int[] seenWater = new int[MOST_SEEN];

    private final Tape tape = new Tape();
    private final Sheet[] sheets = new Sheet[SHEETS];

    public WellTurns() {
        for (int s = 0; s < SHEETS; s++) {
            sheets[s] = new Sheet();
        }
    }

    // ---- 1 the well, beasts

    public int beast(int kind, int days, int herd) {
        if (outside(kind, PLAIN, GREEDY) || outside(days, 1, MOST_DAYS) || outside(herd, 0, 1)) {
            return BAD;
        }
        if (camp.beasts >= MOST_BEASTS) {
            return FULL;
        }
        past.forget();
        camp.add(kind, days, herd);
        return camp.beasts - 1;
    }

    public int of(int beast, int what) {
        if (camp.lacks(beast)) {
            return BAD;
        }
        switch (what) {
            case 0: return camp.kind[beast];
            case 1: return camp.days[beast];
            case 2: return camp.herd[beast];
            case 3: return moment.needs(camp, beast);
            case 4: return moment.drunk[beast];
            case 5: return moment.pulled[beast];
            case 6: return moment.sated(camp, beast) ? 1 : 0;
            case 7: return moment.swollen[beast];
            case 8: return gulp(camp.kind[beast]);
            default: return BAD;
        }
    }

    public int well(int what, int v) {
        if (outside(what, 0, LOWEST.length - 1) || outside(v, LOWEST[what], HIGHEST[what])) {
            return BAD;
        }
        int was = measure(what);
        switch (what) {
            case 0: moment.water = v; break;
            case 1: camp.mud = v; break;
            case 2: camp.rise = v; break;
            case 3: camp.bucket = v; break;
            case 4: camp.places = v; break;
            case 5: camp.from = v; break;
            default: camp.law = v; break;
        }
        return was;
    }

    public int pull(int beast) {
        if (beast != NONE && camp.lacks(beast)) {
            return BAD;
        }
        int was = camp.puller;
        camp.puller = beast;
        return was;
    }

    public int turn(int k) {
        if (camp.lacks(k)) {
            return BAD;
        }
        camp.arrange();
        return camp.order[k];
    }

    public int type(int letter) {
        if (outside(letter, FIRST_LETTER, LAST_LETTER)) {
            return BAD;
        }
        return tape.put(letter) ? tape.length : FULL;
    }

    public int caravan() {
        trialCamp.takeFrom(camp);
        int answer = tape.readInto(trialCamp);
        tape.length = 0;
        if (answer > 0) {
            camp.takeFrom(trialCamp);
            moment.begin(tape.water);
            past.forget();
        }
        return answer;
    }

    public int count(int what) {
        switch (what) {
            case 0: return camp.beasts;
            case 1: return moment.minute;
            case 2: return moment.water;
            case 3: return moment.trough;
            case 4: return moment.wear;
            case 5: return moment.spliced;
            case 6: return past.known;
            case 7: return moment.satedSet(camp);
            case 8: return moment.drunkTogether();
            case 9: case 10: case 11: case 12: case 13: case 14: return measure(what - 8);
            case 15: return camp.puller;
            default: return BAD;
        }
    }

    /** What the call well names by the same numbers. */
    private int measure(int what) {
        switch (what) {
            case 0: return moment.water;
            case 1: return camp.mud;
            case 2: return camp.rise;
            case 3: return camp.bucket;
            case 4: return camp.places;
            case 5: return camp.from;
            default: return camp.law;
        }
    }

    // ---- minutes

    public int minutes(int n) {
        int refused = refusal(n);
        if (refused != 0) {
            return refused;
        }
        camp.arrange();
        int ahead = moment.drunkTogether();
        for (int k = 0; k < n; k++) {
            past.keep(moment);
            moment.step(camp, EVERYONE);
        }
        return moment.drunkTogether() - ahead;
    }

    public int drift(int n) {
        int refused = refusal(n);
        if (refused != 0) {
            return refused;
        }
        camp.arrange();
        int broke = 0;
        for (int k = 0; k < n; k++) {
            past.keep(moment);
            int wear = moment.wear;
            moment.step(camp, EVERYONE);
            if (moment.wear > wear && moment.ropeBreaks()) {
                broke++;
            }
        }
        return broke;
    }

    /** Why n MINUTES can't pass; 0: they can. */
    private int refusal(int n) {
        if (outside(n, 1, MOST_AT_ONCE)) {
            return BAD;
        }
        return moment.minute + n > LAST_MINUTE ? FULL : 0;
    }

    public int undo() {
        return past.giveBack(moment) ? past.known : NONE;
    }

    public int seed(int v) {
        if (v < 0) {
            return BAD;
        }
        int was = moment.draw;
        moment.draw = v;
        return was;
    }

    // ---- 2 foretold

    public int water(int n) {
        if (outside(n, 0, FORESEEN)) {
            return BAD;
        }
        foretell();
        play(n, EVERYONE);
        return trial.water;
    }

    public int done(int beast) {
        if (camp.lacks(beast)) {
            return BAD;
        }
        foretellDone(camp.law);
        return doneAt[beast];
    }

    public int all() {
        trialCamp.takeFrom(camp);
        return soonestAll(FORESEEN);
    }

    public int height(int what) {
        if (outside(what, 0, 1)) {
            return BAD;
        }
        trialCamp.takeFrom(camp);
        int best = NONE;
        int bestWhen = FORESEEN + 1;
        for (int from = 0; from <= MOST_WATER; from++) {
            trialCamp.from = from;
            int when = soonestAll(bestWhen - 1);
            if (when != NONE) {
                best = from;
                bestWhen = when;
            }
        }
        if (best == NONE) {
            return NONE;
        }
        return what == 0 ? best : bestWhen;
    }

    public int pulls(int what) {
        if (outside(what, 0, 1)) {
            return BAD;
        }
        trialCamp.takeFrom(camp);
        int best = NONE;
        int bestWhen = FORESEEN + 1;
        for (int k = -1; k < camp.beasts; k++) {
            trialCamp.puller = k < 0 ? NONE : k;
            int when = soonestAll(bestWhen - 1);
            if (when != NONE) {
                best = k < 0 ? NOBODY_SHOULD : k;
                bestWhen = when;
            }
        }
        if (best == NONE) {
            return NONE;
        }
        return what == 0 ? best : bestWhen;
    }

    public int waits(int herd, int law) {
        if (outside(herd, 0, 1) || outside(law, 0, LAST_LAW)) {
            return BAD;
        }
        foretellDone(law);
        return herdWaits(herd);
    }

    public int least(int what) {
        return bestLaw(what, false);
    }

    public int both(int what) {
        return bestLaw(what, true);
    }

    public int wholly(int n, int what) {
        if (outside(n, 0, FORESEEN) || outside(what, 0, 1)) {
            return BAD;
        }
        int pullerBit = camp.puller == NONE ? 0 : 1 << camp.puller;
        int bestSet = 0;
        int most = -1;
        foretell();
        for (int set = 0; set < 1 << camp.beasts && most < camp.beasts; set++) {
            if ((set & pullerBit) == 0) {
                trial.takeFrom(moment);
                play(n, set);
                int sated = Integer.bitCount(trial.satedSet(trialCamp));
                if (sated > most) {
                    most = sated;
                    bestSet = set;
                }
            }
        }
        return what == 0 ? bestSet : most;
    }

    public int drank(int v, int what) {
        if (outside(v, 0, 999) || outside(what, 0, 1)) {
            return BAD;
        }
        int found = 0;
        int first = NONE;
        for (int set = 0; set < 1 << camp.beasts; set++) {
            if (moment.needsYetOf(camp, set) == v) {
                first = found == 0 ? set : first;
                found++;
            }
        }
        return what == 0 ? found : first;
    }

    public int holds(int n) {
        if (outside(n, 0, FORESEEN)) {
            return BAD;
        }
        int ropes = MILLION;
        for (int k = 1; k <= n; k++) {
            int breaking = Math.min(100, (moment.wear + k) / 10);
            ropes = ropes * (100 - breaking) / 100;
        }
        return ropes;
    }

    public int image() {
        keptCamp.takeFrom(camp);
        keptMoment.takeFrom(moment);
        keptPast.takeFrom(past);
        hasImage = true;
        return 1;
    }

    public int restore() {
        if (!hasImage) {
            return NONE;
        }
        camp.takeFrom(keptCamp);
        moment.takeFrom(keptMoment);
        past.takeFrom(keptPast);
        return 1;
    }

    private void foretell() {
        trialCamp.takeFrom(camp);
        trialCamp.arrange();
        trial.takeFrom(moment);
    }

    /** n MINUTES of the trial; it may end ahead of them where nothing would change any more. */
    private void play(int n, int let) {
        boolean moves = true;
        for (int k = 0; k < n && moves; k++) {
            moves = trial.step(trialCamp, let);
        }
    }

    /** ALL from now for the trial's camp as it is set, up to the last MINUTE; NONE: not by then. */
    private int soonestAll(int last) {
        trialCamp.arrange();
        trial.takeFrom(moment);
        boolean moves = true;
        for (int k = 0; k <= last && moves; k++) {
            if (trial.allSated(trialCamp)) {
                return k;
            }
            moves = trial.step(trialCamp, EVERYONE);
        }
        return NONE;
    }

    /** DONE of each by a LAW (NONE: it is not), into doneAt. */
    private void foretellDone(int law) {
        trialCamp.takeFrom(camp);
        trialCamp.law = law;
        trialCamp.arrange();
        trial.takeFrom(moment);
        for (int b = 0; b < MOST_BEASTS; b++) {
            doneAt[b] = NONE;
        }
        boolean moves = true;
        for (int k = 0; k <= FORESEEN && moves; k++) {
            markDone(k);
            moves = trial.step(trialCamp, EVERYONE);
        }
    }

    private void markDone(int when) {
        for (int b = 0; b < trialCamp.beasts; b++) {
            if (doneAt[b] == NONE && trial.sated(trialCamp, b)) {
                doneAt[b] = when;
            }
        }
    }

    /** WAITS of a HERD by what foretellDone left. */
    private int herdWaits(int herd) {
        int together = 0;
        for (int b = 0; b < camp.beasts; b++) {
            if (camp.herd[b] == herd && b != camp.puller) {
                together += doneAt[b] == NONE ? FORESEEN : doneAt[b];
            }
        }
        return together;
    }

    /** The LAW by which WAITS (of both HERDS together, or the greater of the two) are least, or those. */
    private int bestLaw(int what, boolean greater) {
        if (outside(what, 0, 1)) {
            return BAD;
        }
        int best = 0;
        int bestWaits = MOST_BEASTS * FORESEEN + 1;
        for (int law = 0; law <= LAST_LAW; law++) {
            foretellDone(law);
            int one = herdWaits(0);
            int other = herdWaits(1);
            int these = greater ? Math.max(one, other) : one + other;
            if (these < bestWaits) {
                best = law;
                bestWaits = these;
            }
        }
        return what == 0 ? best : bestWaits;
    }

    // ---- 3 sheets

    public int buckets(int sheet, int lane, int i, int n) {
        if (noSheet(sheet) || outside(lane, 0, LAST_LANE) || outside(n, 1, MOST_SEEN)) {
            return BAD;
        }
        int refused = sheets[sheet].refusal(lane, i, 2 * n);
        if (refused != 0) {
            return refused;
        }
        if (!readSeen(sheets[sheet], i, n)) {
            return NOT;
        }
        int sizes = 0;
        for (int size = 1; size <= MOST_BUCKET; size++) {
            if (wouldBeSeen(size, n)) {
                sizes |= 1 << size;
            }
        }
        return sizes;
    }

    /** n heights of a row into seenMinute, seenWater; whether they are as told. */
    private boolean readSeen(Sheet row, int i, int n) {
        for (int k = 0; k < n; k++) {
            long when = row.items[i + 2 * k];
            long gallons = row.items[i + 2 * k + 1];
            if (when < 0 || when > FORESEEN || gallons < 0 || gallons > MOST_WATER) {
                return false;
            }
            seenMinute[k] = (int) when;
            seenWater[k] = (int) gallons;
        }
        return true;
    }

    /** Whether by a bucket of this size the n heights in seenMinute, seenWater would all be so. */
    private boolean wouldBeSeen(int size, int n) {
        foretell();
        trialCamp.bucket = size;
        int last = 0;
        for (int k = 0; k < n; k++) {
            last = Math.max(last, seenMinute[k]);
        }
        for (int when = 0; when <= last; when++) {
            for (int k = 0; k < n; k++) {
                if (seenMinute[k] == when && seenWater[k] != trial.water) {
                    return false;
                }
            }
            trial.step(trialCamp, EVERYONE);
        }
        return true;
    }

    public int film(int n, int sheet, int lane, int i) {
        if (outside(n, 1, MOST_ITEMS) || noSheet(sheet) || outside(lane, 0, LAST_LANE)) {
            return BAD;
        }
        int refused = sheets[sheet].refusal(lane, i, n);
        if (refused != 0) {
            return refused;
        }
        foretell();
        for (int k = 0; k < n; k++) {
            trial.step(trialCamp, EVERYONE);
            sheets[sheet].put(i + k, trial.water);
        }
        return n;
    }

    public int sheet(int sheet, int lane, int n) {
        if (noSheet(sheet) || outside(lane, 0, LAST_LANE) || n > MOST_ITEMS) {
            return BAD;
        }
        if (n < 0) {
            return SIZE;
        }
        sheets[sheet].renew(lane, n);
        return n;
    }

    public int drop(int sheet) {
        if (noSheet(sheet)) {
            return BAD;
        }
        if (sheets[sheet].lane == NO_LANE) {
            return NULL;
        }
        int had = sheets[sheet].size;
        sheets[sheet].renew(NO_LANE, 0);
        return had;
    }

    public int item(int sheet, int lane, int i, long v) {
        if (noSheet(sheet) || outside(lane, 0, LAST_LANE)) {
            return BAD;
        }
        int refused = sheets[sheet].refusal(lane, i, 1);
        if (refused != 0) {
            return refused;
        }
        sheets[sheet].put(i, v);
        return 1;
    }

    public int copy(int from, int i, int to, int j, int n) {
        if (noSheet(from) || noSheet(to)) {
            return BAD;
        }
        Sheet giver = sheets[from];
        Sheet taker = sheets[to];
        if (giver.lane == NO_LANE || taker.lane == NO_LANE) {
            return NULL;
        }
        if (giver.lane != taker.lane) {
            return CAST;
        }
        if (giver.lacks(i, n) || taker.lacks(j, n)) {
            return INDEX;
        }
        System.arraycopy(giver.items, i, taker.items, j, n);
        return n;
    }

    private static boolean noSheet(int sheet) {
        return outside(sheet, 0, SHEETS - 1);
    }

    private static boolean outside(int v, int lowest, int highest) {
        return v < lowest || v > highest;
    }

    // ---- kinds

    private static boolean milky(int kind) {
        return kind == MILK || kind == GREEDY;
    }

    /** What one of a KIND drinks in a MINUTE. */
    private static int gulp(int kind) {
        switch (kind) {
            case YOUNG: return 2;
            case GREEDY: return 8;
            default: return 4;
        }
    }

    /** What stays through MINUTES: how the well is set, who came, who PULLS. */
    private static final class Camp {
        private int mud = 4;
        private int rise = 10;
        private int bucket = 4;
        private int places = 3;
        private int from;
        private int law;
        private int puller = NONE;
        private int beasts;
        private final int[] kind = new int[MOST_BEASTS];
        private final int[] days = new int[MOST_BEASTS];
        private final int[] herd = new int[MOST_BEASTS];
        /** What one NEEDS, but for what it PULLED. */
        private final int[] thirst = new int[MOST_BEASTS];
        /** By LAW, once arrange has been called: who is the k-th. */
        private final int[] order = new int[MOST_BEASTS];
        private int lined;

        void takeFrom(Camp other) {
            mud = other.mud;
            rise = other.rise;
            bucket = other.bucket;
            places = other.places;
            from = other.from;
            law = other.law;
            puller = other.puller;
            beasts = other.beasts;
            System.arraycopy(other.kind, 0, kind, 0, MOST_BEASTS);
            System.arraycopy(other.days, 0, days, 0, MOST_BEASTS);
            System.arraycopy(other.herd, 0, herd, 0, MOST_BEASTS);
            System.arraycopy(other.thirst, 0, thirst, 0, MOST_BEASTS);
        }

        boolean lacks(int b) {
            return b < 0 || b >= beasts;
        }

        void add(int itsKind, int itsDays, int itsHerd) {
            if (beasts < MOST_BEASTS) {
                kind[beasts] = itsKind;
                days[beasts] = itsDays;
                herd[beasts] = itsHerd;
                thirst[beasts] = 3 * itsDays + (milky(itsKind) ? 5 : 0);
                beasts++;
            }
        }

        void arrange() {
            lined = 0;
            switch (law) {
                case 1: lineByDays(); break;
                case 2: lineMilky(true); lineMilky(false); break;
                case 3: lineByTurns(); break;
                default: lineAsTheyCome(); break;
            }
        }

        private void lineAsTheyCome() {
            for (int b = 0; b < beasts; b++) {
                lineUp(b);
            }
        }

        private void lineByDays() {
            for (int d = MOST_DAYS; d >= 1; d--) {
                for (int b = 0; b < beasts; b++) {
                    if (days[b] == d) {
                        lineUp(b);
                    }
                }
            }
        }

        private void lineMilky(boolean wanted) {
            for (int b = 0; b < beasts; b++) {
                if (milky(kind[b]) == wanted) {
                    lineUp(b);
                }
            }
        }

        private void lineByTurns() {
            int one = nextOf(0, 0);
            int other = nextOf(1, 0);
            for (int k = 0; k < beasts; k++) {
                if (one < beasts) {
                    lineUp(one);
                    one = nextOf(0, one + 1);
                }
                if (other < beasts) {
                    lineUp(other);
                    other = nextOf(1, other + 1);
                }
            }
        }

        /** The first of a HERD from a number on; as many as there are BEASTS: none. */
        private int nextOf(int wanted, int start) {
            for (int b = start; b < beasts; b++) {
                if (herd[b] == wanted) {
                    return b;
                }
            }
            return beasts;
        }

        private void lineUp(int b) {
            if (lined < MOST_BEASTS) {
                order[lined] = b;
                lined++;
            }
        }
    }

    /** What MINUTES change, and so what an UNDONE one gives back. */
    private static final class Moment {
        private int water = 30;
        private int trough;
        private int wear;
        private int spliced;
        private int minute;
        private int draw = 1;
        private final int[] drunk = new int[MOST_BEASTS];
        private final int[] pulled = new int[MOST_BEASTS];
        private final int[] swollen = new int[MOST_BEASTS];
        /** What a GREEDY one has DRUNK in MINUTES one behind another, up to now. */
        private final int[] streak = new int[MOST_BEASTS];

        void takeFrom(Moment other) {
            water = other.water;
            trough = other.trough;
            wear = other.wear;
            spliced = other.spliced;
            minute = other.minute;
            draw = other.draw;
            System.arraycopy(other.drunk, 0, drunk, 0, MOST_BEASTS);
            System.arraycopy(other.pulled, 0, pulled, 0, MOST_BEASTS);
            System.arraycopy(other.swollen, 0, swollen, 0, MOST_BEASTS);
            System.arraycopy(other.streak, 0, streak, 0, MOST_BEASTS);
        }

        /** A CARAVAN has come; THE DRAW stays. */
        void begin(int gallons) {
            water = gallons;
            trough = 0;
            wear = 0;
            spliced = 0;
            minute = 0;
            for (int b = 0; b < MOST_BEASTS; b++) {
                drunk[b] = 0;
                pulled[b] = 0;
                swollen[b] = 0;
                streak[b] = 0;
            }
        }

        int needs(Camp camp, int b) {
            return camp.thirst[b] + pulled[b] / 3;
        }

        private int needsYet(Camp camp, int b) {
            return Math.max(0, needs(camp, b) - drunk[b]);
        }

        int needsYetOf(Camp camp, int set) {
            int together = 0;
            for (int b = 0; b < camp.beasts; b++) {
                if ((set >> b & 1) == 1) {
                    together += needsYet(camp, b);
                }
            }
            return together;
        }

        boolean sated(Camp camp, int b) {
            return drunk[b] >= needs(camp, b);
        }

        int satedSet(Camp camp) {
            int set = 0;
            for (int b = 0; b < camp.beasts; b++) {
                if (sated(camp, b)) {
                    set |= 1 << b;
                }
            }
            return set;
        }

        /** All but PULLER. */
        boolean allSated(Camp camp) {
            for (int b = 0; b < camp.beasts; b++) {
                if (b != camp.puller && !sated(camp, b)) {
                    return false;
                }
            }
            return true;
        }

        int drunkTogether() {
            int together = 0;
            for (int b = 0; b < MOST_BEASTS; b++) {
                together += drunk[b];
            }
            return together;
        }

        /**
         * A MINUTE, for a camp that has been arranged; of its BEASTS only those of the set are let to THE TROUGH.
         * False: nothing but THE MINUTE changed, so the next MINUTES would change nothing else either.
         */
        boolean step(Camp camp, int let) {
            boolean waiting = spliced > 0 || anySwollen(camp);
            int risen = (MOST_WATER - water) / camp.rise;
            water += risen;
            int drawn = drawBucket(camp);
            int gone = waterBeasts(camp, let);
            minute++;
            return waiting || risen != 0 || drawn != 0 || gone != 0;
        }

        private boolean anySwollen(Camp camp) {
            for (int b = 0; b < camp.beasts; b++) {
                if (swollen[b] > 0) {
                    return true;
                }
            }
            return false;
        }

        private int drawBucket(Camp camp) {
            if (spliced > 0) {
                spliced--;
                return 0;
            }
            if (water < camp.from) {
                return 0;
            }
            int takes = camp.puller == NONE ? camp.bucket / 2 : camp.bucket;
            int clear = Math.max(0, water - camp.mud);
            int drawn = Math.min(takes, Math.min(clear, TROUGH_HOLDS - trough));
            if (drawn != 0) {
                water -= drawn;
                trough += drawn;
                wear++;
                if (!camp.lacks(camp.puller)) {
                    pulled[camp.puller]++;
                }
            }
            return drawn;
        }

        private int waterBeasts(Camp camp, int let) {
            int left = camp.places;
            int gone = 0;
            for (int k = 0; k < camp.beasts; k++) {
                int b = camp.order[k];
                int yet = needsYet(camp, b);
                int drinks = 0;
                if (left > 0 && (let >> b & 1) == 1 && b != camp.puller && swollen[b] == 0 && yet > 0) {
                    left--;
                    drinks = Math.min(gulp(camp.kind[b]), Math.min(yet, trough));
                    drunk[b] += drinks;
                    trough -= drinks;
                    gone += drinks;
                }
                swell(camp.kind[b], b, drinks);
            }
            return gone;
        }

        /** What the MINUTE leaves of being SWOLLEN, by what one drank in it. */
        private void swell(int kind, int b, int drinks) {
            if (swollen[b] > 0) {
                swollen[b]--;
            }
            streak[b] = drinks > 0 ? streak[b] + drinks : 0;
            if (kind == GREEDY && streak[b] >= SWELLS_AT) {
                swollen[b] = SWOLLEN_FOR;
                streak[b] = 0;
            }
        }

        /** Behind a bucket drawn in a DRIFT: THE DRAW goes on; whether THE ROPE broke by it. */
        boolean ropeBreaks() {
            draw = (draw * 1103515245 + 12345) & LOWEST_31_BITS;
            if (draw / 65536 % 100 >= wear / 10) {
                return false;
            }
            spliced = SPLICED_FOR;
            wear = 0;
            return true;
        }
    }

    /** The moments ahead of the latest MINUTES, in a ring. */
    private static final class Past {
        private final Moment[] ring = new Moment[MOST_UNDONE];
        private int next;
        private int known;

        Past() {
            for (int k = 0; k < MOST_UNDONE; k++) {
                ring[k] = new Moment();
            }
        }

        void takeFrom(Past other) {
            for (int k = 0; k < MOST_UNDONE; k++) {
                ring[k].takeFrom(other.ring[k]);
            }
            next = other.next;
            known = other.known;
        }

        void forget() {
            known = 0;
        }

        void keep(Moment now) {
            ring[next].takeFrom(now);
            next = (next + 1) % MOST_UNDONE;
            known = Math.min(MOST_UNDONE, known + 1);
        }

        boolean giveBack(Moment now) {
            if (known == 0) {
                return false;
            }
            next = (next + MOST_UNDONE - 1) % MOST_UNDONE;
            known--;
            now.takeFrom(ring[next]);
            return true;
        }
    }

    /** Letters of a CARAVAN, and how far they are read. */
    private static final class Tape {
        private final int[] letters = new int[MOST_LETTERS];
        private int length;
        private int at;
        private int water;

        boolean put(int letter) {
            if (length >= MOST_LETTERS) {
                return false;
            }
            letters[length] = letter;
            length++;
            return true;
        }

        /** A CARAVAN into a camp, its WATER into water: how many BEASTS, or a FAULT. */
        int readInto(Camp camp) {
            at = 0;
            camp.beasts = 0;
            camp.puller = NONE;
            return readWell(camp) && readBeasts(camp) ? camp.beasts : FAULT - at;
        }

        private boolean readWell(Camp camp) {
            water = readNumber(MOST_WATER);
            if (water < 0 || !pass(',')) {
                return false;
            }
            camp.mud = readNumber(MOST_MUD);
            return camp.mud >= 0 && pass(';');
        }

        private boolean readBeasts(Camp camp) {
            boolean more = true;
            for (int k = 0; k < MOST_BEASTS && more; k++) {
                if (!readBeast(camp)) {
                    return false;
                }
                more = k < MOST_BEASTS - 1 && pass(',');
            }
            return ahead() == END;
        }

        private boolean readBeast(Camp camp) {
            int kind = kindOf(ahead());
            if (kind == NONE) {
                return false;
            }
            at++;
            int days = ahead() - '0';
            if (outside(days, 1, MOST_DAYS)) {
                return false;
            }
            at++;
            camp.add(kind, days, pass('b') ? 1 : 0);
            return true;
        }

        private int kindOf(int letter) {
            switch (letter) {
                case 'p': return PLAIN;
                case 'm': return MILK;
                case 'y': return YOUNG;
                case 'g': return GREEDY;
                default: return NONE;
            }
        }

        /** A number up to the most; one that is above leaves the reading at its first digit. NONE: a FAULT. */
        private int readNumber(int most) {
            if (!digit(ahead())) {
                return NONE;
            }
            int first = at;
            int number = letters[at] - '0';
            at++;
            if (at < length && digit(letters[at])) {
                number = 10 * number + letters[at] - '0';
                at++;
            }
            if (number > most) {
                at = first;
                return NONE;
            }
            return number;
        }

        private boolean digit(int letter) {
            return letter >= '0' && letter <= '9';
        }

        private boolean pass(int letter) {
            if (ahead() != letter) {
                return false;
            }
            at++;
            return true;
        }

        /** The letter behind blanks, where the reading stays; END. */
        private int ahead() {
            while (at < length && letters[at] == ' ') {
                at++;
            }
            return at < length ? letters[at] : END;
        }
    }

    /** A row of a LANE, or nothing; its items are held cut to the LANE. */
    private static final class Sheet {
        private int lane = NO_LANE;
        private int size;
        private final long[] items = new long[MOST_ITEMS];

        void renew(int itsLane, int n) {
            lane = itsLane;
            size = n;
            for (int k = 0; k < MOST_ITEMS; k++) {
                items[k] = 0;
            }
        }

        /** Whether n items from i on are not all there. */
        boolean lacks(int i, int n) {
            return i < 0 || n < 0 || i > size - n;
        }

        /** Why n items from i on can't be taken as of a row of a LANE; 0: they can. */
        int refusal(int wanted, int i, int n) {
            if (lane == NO_LANE) {
                return NULL;
            }
            if (lane != wanted) {
                return CAST;
            }
            return lacks(i, n) ? INDEX : 0;
        }

        void put(int i, long v) {
            switch (lane) {
                case 0: items[i] = (byte) v; break;
                case 1: items[i] = (short) v; break;
                case 2: items[i] = (int) v; break;
                default: items[i] = v; break;
            }
        }
    }
}
