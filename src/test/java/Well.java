import java.util.ArrayDeque;
import java.util.ArrayList;
import java.util.Deque;
import java.util.List;

/** A WellTurns whose calls are counted and kept, so that an answer that is not as due is told with the calls that led to it. */
final class Well {
    private static final int MOST_CALLS = 512, TOLD = 24;

    private final WellTurns made = new WellTurns();
    private final Deque<String> latest = new ArrayDeque<>();
    private int used = 0;
    private int got = 0;

    /** A well to which this CARAVAN came. */
    static Well at(String caravan) {
        Well x = new Well().letters(caravan).caravan();
        Due.holds("the test's own CARAVAN: " + caravan, x.got > 0);
        return x;
    }

    /** What the latest call answered is due to be this. */
    Well is(int want) {
        Due.is(Doc.where() + ": " + String.join("; ", latest), got, want);
        return this;
    }

    int got() {
        return got;
    }

    int used() {
        return used;
    }

    private Well told(int answer, String call, long... a) {
        used++;
        if (used > MOST_CALLS) {
            throw new IllegalStateException("the test makes more than 512 calls of one object: " + Doc.where());
        }
        StringBuilder words = new StringBuilder(call).append('(');
        for (int k = 0; k < a.length; k++) {
            words.append(k == 0 ? "" : ", ").append(a[k]);
        }
        latest.addLast(words.append(")").toString());
        if (latest.size() > TOLD) {
            latest.removeFirst();
        }
        got = answer;
        return this;
    }

    // ---- every call of the face

    Well beast(int kind, int days, int herd) { return told(made.beast(kind, days, herd), "beast", kind, days, herd); }
    Well of(int beast, int what) { return told(made.of(beast, what), "of", beast, what); }
    Well well(int what, int v) { return told(made.well(what, v), "well", what, v); }
    Well pull(int beast) { return told(made.pull(beast), "pull", beast); }
    Well turn(int k) { return told(made.turn(k), "turn", k); }
    Well type(int letter) { return told(made.type(letter), "type", letter); }
    Well caravan() { return told(made.caravan(), "caravan"); }
    Well count(int what) { return told(made.count(what), "count", what); }
    Well minutes(int n) { return told(made.minutes(n), "minutes", n); }
    Well drift(int n) { return told(made.drift(n), "drift", n); }
    Well undo() { return told(made.undo(), "undo"); }
    Well seed(int v) { return told(made.seed(v), "seed", v); }
    Well water(int n) { return told(made.water(n), "water", n); }
    Well done(int beast) { return told(made.done(beast), "done", beast); }
    Well all() { return told(made.all(), "all"); }
    Well height(int what) { return told(made.height(what), "height", what); }
    Well pulls(int what) { return told(made.pulls(what), "pulls", what); }
    Well waits(int herd, int law) { return told(made.waits(herd, law), "waits", herd, law); }
    Well least(int what) { return told(made.least(what), "least", what); }
    Well both(int what) { return told(made.both(what), "both", what); }
    Well wholly(int n, int what) { return told(made.wholly(n, what), "wholly", n, what); }
    Well drank(int v, int what) { return told(made.drank(v, what), "drank", v, what); }
    Well holds(int n) { return told(made.holds(n), "holds", n); }
    Well image() { return told(made.image(), "image"); }
    Well restore() { return told(made.restore(), "restore"); }
    Well buckets(int sheet, int lane, int i, int n) { return told(made.buckets(sheet, lane, i, n), "buckets", sheet, lane, i, n); }
    Well film(int n, int sheet, int lane, int i) { return told(made.film(n, sheet, lane, i), "film", n, sheet, lane, i); }
    Well sheet(int sheet, int lane, int n) { return told(made.sheet(sheet, lane, n), "sheet", sheet, lane, n); }
    Well drop(int sheet) { return told(made.drop(sheet), "drop", sheet); }
    Well item(int sheet, int lane, int i, long v) { return told(made.item(sheet, lane, i, v), "item", sheet, lane, i, v); }
    Well copy(int from, int i, int to, int j, int n) { return told(made.copy(from, i, to, j, n), "copy", from, i, to, j, n); }

    // ---- several calls at once

    Well letters(String text) {
        for (int p = 0; p < text.length(); p++) {
            type(text.charAt(p));
        }
        return this;
    }

    /** The answer of the CARAVAN of a text. */
    Well reads(String text) {
        return letters(text).caravan();
    }

    /** Of the first BEASTS what is due to be so. */
    Well each(int what, int... want) {
        for (int b = 0; b < want.length; b++) {
            of(b, what).is(want[b]);
        }
        return this;
    }

    Well line(int... want) {
        for (int k = 0; k < want.length; k++) {
            turn(k).is(want[k]);
        }
        return this;
    }

    /** A new row of these items. */
    Well row(int sheet, int lane, long... items) {
        sheet(sheet, lane, items.length);
        for (int k = 0; k < items.length; k++) {
            item(sheet, lane, k, items[k]);
        }
        return this;
    }

    /** n times as many MINUTES. */
    Well minutesTimes(int n, int minutes) {
        for (int k = 0; k < n; k++) {
            minutes(minutes);
        }
        return this;
    }

    // ---- what can be seen

    /** All that the calls tell without changing anything, THE DRAW too. */
    List<Integer> look() {
        List<Integer> seen = new ArrayList<>();
        for (int what = 0; what <= 15; what++) {
            seen.add(count(what).got);
        }
        int beasts = count(0).got;
        for (int b = 0; b < beasts; b++) {
            for (int what = 0; what <= 8; what++) {
                seen.add(of(b, what).got);
            }
            seen.add(turn(b).got);
        }
        int draw = seed(1).got;
        seed(draw);
        seen.add(draw);
        return seen;
    }

    /**
     * All that can be seen by changing it as well: SHEETS, THE TAPE, what may be UNDONE, an IMAGE. Items are seen as
     * heights (a MINUTE and WATER), so rows that are held against one another had better hold such.
     */
    List<Integer> search() {
        List<Integer> seen = look();
        for (int s = 0; s < 4; s++) {
            searchSheet(s, seen);
        }
        seen.add(type('x').got);
        seen.add(caravan().got);
        seen.add(minutes(1).got);
        seen.add(drift(1).got);
        seen.addAll(look());
        for (int k = 0; k < 9; k++) {
            seen.add(undo().got);
            seen.add(count(2).got);
            seen.add(count(3).got);
            seen.add(count(8).got);
        }
        seen.add(restore().got);
        seen.addAll(look());
        return seen;
    }

    private void searchSheet(int s, List<Integer> seen) {
        int lane = 0;
        for (int k = 0; k < 4; k++) {
            int answer = item(s, k, -1, 0).got;
            seen.add(answer);
            lane = answer == WellTurns.INDEX ? k : lane;
        }
        for (int i = 0; i < 4; i++) {
            seen.add(buckets(s, lane, i, 1).got);
        }
        seen.add(drop(s).got);
    }
}
