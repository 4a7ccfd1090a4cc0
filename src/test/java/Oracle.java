import java.util.ArrayDeque;
import java.util.ArrayList;
import java.util.Comparator;
import java.util.Deque;
import java.util.List;

/**
 * The document once more, written apart from the class and without any care for speed or room: objects of kinds,
 * whole states copied for whatever is foretold, every MINUTE played through.
 */
final class Oracle {
    static final int BAD = -1, NOT = -2, FULL = -3, NONE = -4, NULL = -11, CAST = -12, INDEX = -13, SIZE = -14;

    static class Plain {
        int days, herd, drunk, pulled, swollen;
        final List<Integer> row = new ArrayList<>();

        int kind() { return 0; }
        int needs() { return 3 * days + pulled / 3; }
        int drinks() { return 4; }
        boolean milk() { return false; }
        boolean sated() { return drunk >= needs(); }
        void minuteDrank(int gallons) { }

        Plain twin() {
            Plain other = make(kind(), days, herd);
            other.backTo(this);
            return other;
        }

        void backTo(Plain then) {
            drunk = then.drunk;
            pulled = then.pulled;
            swollen = then.swollen;
            List<Integer> was = new ArrayList<>(then.row);
            row.clear();
            row.addAll(was);
        }
    }

    static class Milk extends Plain {
        @Override int kind() { return 1; }
        @Override int needs() { return super.needs() + 5; }
        @Override boolean milk() { return true; }
    }

    static class Young extends Plain {
        @Override int kind() { return 2; }
        @Override int drinks() { return super.drinks() / 2; }
    }

    static class Greedy extends Milk {
        @Override int kind() { return 3; }
        @Override int drinks() { return super.drinks() * 2; }

        @Override void minuteDrank(int gallons) {
            swollen = Math.max(0, swollen - 1);
            if (gallons == 0) {
                row.clear();
                return;
            }
            row.add(gallons);
            int sum = 0;
            for (int g : row) {
                sum += g;
            }
            if (sum >= 12) {
                swollen = 5;
                row.clear();
            }
        }
    }

    static Plain make(int kind, int days, int herd) {
        Plain one = kind == 0 ? new Plain() : kind == 1 ? new Milk() : kind == 2 ? new Young() : new Greedy();
        one.days = days;
        one.herd = herd;
        return one;
    }

    static class State {
        int[] set = {30, 4, 10, 4, 3, 0, 0};
        int trough, wear, spliced, minute, puller = NONE, broke;
        long draw = 1;
        List<Plain> beasts = new ArrayList<>();
        Deque<State> ahead = new ArrayDeque<>();

        State twin() {
            State other = new State();
            other.set = set.clone();
            other.trough = trough;
            other.wear = wear;
            other.spliced = spliced;
            other.minute = minute;
            other.puller = puller;
            other.draw = draw;
            for (Plain b : beasts) {
                other.beasts.add(b.twin());
            }
            return other;
        }

        State twinWithPast() {
            State other = twin();
            other.ahead.addAll(ahead);
            return other;
        }

        List<Integer> line() {
            List<Integer> all = new ArrayList<>();
            for (int b = 0; b < beasts.size(); b++) {
                all.add(b);
            }
            if (set[6] == 1) {
                all.sort(Comparator.comparing((Integer b) -> -beasts.get(b).days));
            } else if (set[6] == 2) {
                all.sort(Comparator.comparing((Integer b) -> beasts.get(b).milk() ? 0 : 1));
            } else if (set[6] == 3) {
                int[] seen = new int[2];
                int[] rank = new int[beasts.size()];
                for (int b : all) {
                    int herd = beasts.get(b).herd;
                    rank[b] = 2 * seen[herd]++ + herd;
                }
                all.sort(Comparator.comparing((Integer b) -> rank[b]));
            }
            return all;
        }

        int minute(boolean drift, int let) {
            set[0] += (60 - set[0]) / set[2];
            boolean whole = spliced == 0;
            spliced = Math.max(0, spliced - 1);
            if (whole && set[0] >= set[5]) {
                int much = puller == NONE ? set[3] / 2 : set[3];
                much = Math.min(much, Math.max(0, set[0] - set[1]));
                much = Math.min(much, 24 - trough);
                if (much != 0) {
                    set[0] -= much;
                    trough += much;
                    wear++;
                    if (puller != NONE) {
                        beasts.get(puller).pulled++;
                    }
                    if (drift) {
                        draw = (draw * 1103515245L + 12345L) % (1L << 31);
                        if ((draw / 65536) % 100 < wear / 10) {
                            broke++;
                            spliced = 3;
                            wear = 0;
                        }
                    }
                }
            }
            List<Integer> first = new ArrayList<>();
            for (int b : line()) {
                Plain one = beasts.get(b);
                if (!one.sated() && one.swollen == 0 && b != puller && (let & 1 << b) != 0 && first.size() < set[4]) {
                    first.add(b);
                }
            }
            int[] had = new int[7];
            int all = 0;
            for (int b : first) {
                Plain one = beasts.get(b);
                had[b] = Math.min(one.drinks(), Math.min(one.needs() - one.drunk, trough));
                one.drunk += had[b];
                trough -= had[b];
                all += had[b];
            }
            for (int b = 0; b < beasts.size(); b++) {
                beasts.get(b).minuteDrank(had[b]);
            }
            minute++;
            return all;
        }

        int all() {
            State s = twin();
            for (int t = 0; t <= 240; t++) {
                boolean so = true;
                for (int b = 0; b < s.beasts.size(); b++) {
                    so &= b == s.puller || s.beasts.get(b).sated();
                }
                if (so) {
                    return t;
                }
                s.minute(false, 127);
            }
            return NONE;
        }

        int done(int b) {
            State s = twin();
            for (int t = 0; t <= 240; t++) {
                if (s.beasts.get(b).sated()) {
                    return t;
                }
                s.minute(false, 127);
            }
            return NONE;
        }

        int waits(int herd, int law) {
            State s = twin();
            s.set[6] = law;
            int sum = 0;
            for (int b = 0; b < s.beasts.size(); b++) {
                if (s.beasts.get(b).herd == herd && b != puller) {
                    int d = s.done(b);
                    sum += d == NONE ? 240 : d;
                }
            }
            return sum;
        }

        int satedCount() {
            int n = 0;
            for (Plain b : beasts) {
                n += b.sated() ? 1 : 0;
            }
            return n;
        }
    }

    State now = new State();
    State kept = null;
    String tape = "";
    /** byte[], short[], int[], long[] or nothing. */
    final Object[] rows = new Object[4];

    private static boolean in(int v, int low, int high) {
        return low <= v && v <= high;
    }

    private boolean has(int b) {
        return in(b, 0, now.beasts.size() - 1);
    }

    int beast(int kind, int days, int herd) {
        if (!in(kind, 0, 3) || !in(days, 1, 9) || !in(herd, 0, 1)) return BAD;
        if (now.beasts.size() == 7) return FULL;
        now.beasts.add(make(kind, days, herd));
        now.ahead.clear();
        return now.beasts.size() - 1;
    }

    int of(int beast, int what) {
        if (!has(beast) || !in(what, 0, 8)) return BAD;
        Plain b = now.beasts.get(beast);
        return new int[] {b.kind(), b.days, b.herd, b.needs(), b.drunk, b.pulled, b.sated() ? 1 : 0, b.swollen,
            b.drinks()}[what];
    }

    int well(int what, int v) {
        if (!in(what, 0, 6)) return BAD;
        int low = what >= 2 && what <= 4 ? 1 : 0;
        if (!in(v, low, new int[] {60, 20, 40, 9, 7, 60, 3}[what])) return BAD;
        int was = now.set[what];
        now.set[what] = v;
        return was;
    }

    int pull(int beast) {
        if (beast != NONE && !has(beast)) return BAD;
        int was = now.puller;
        now.puller = beast;
        return was;
    }

    int turn(int k) {
        return has(k) ? now.line().get(k) : BAD;
    }

    int type(int letter) {
        if (!in(letter, 32, 126)) return BAD;
        if (tape.length() == 60) return FULL;
        tape += (char) letter;
        return tape.length();
    }

    int caravan() {
        String text = tape;
        tape = "";
        List<Plain> come = new ArrayList<>();
        int[] number = {0, 0};
        int stage = 0;
        int begun = 0;
        int kind = 0;
        for (int p = 0; p < text.length(); p++) {
            char c = text.charAt(p);
            boolean digit = Character.isDigit(c);
            if (c == ' ') continue;
            // 0 a number begins, 1 it may go on or end, 2 it must end; 3 .. 5 the same for MUD
            if (stage % 3 == 0 && stage < 6 && digit) {
                number[stage / 3] = c - '0';
                begun = p;
                stage++;
            } else if (stage % 3 == 1 && stage < 6 && digit && p == begun + 1) {
                number[stage / 3] = 10 * number[stage / 3] + c - '0';
                if (number[stage / 3] > (stage < 3 ? 60 : 20)) return -20 - begun;
                stage++;
            } else if ((stage == 1 || stage == 2) && c == ',') {
                stage = 3;
            } else if ((stage == 4 || stage == 5) && c == ';') {
                stage = 6;
            } else if (stage == 6 && "pmyg".indexOf(c) >= 0) {
                kind = "pmyg".indexOf(c);
                stage = 7;
            } else if (stage == 7 && digit && c != '0') {
                come.add(make(kind, c - '0', 0));
                stage = 8;
            } else if (stage == 8 && c == 'b') {
                come.get(come.size() - 1).herd = 1;
                stage = 9;
            } else if ((stage == 8 || stage == 9) && c == ',' && come.size() < 7) {
                stage = 6;
            } else {
                return -20 - p;
            }
        }
        if (stage != 8 && stage != 9) return -20 - text.length();
        State next = new State();
        next.set = now.set.clone();
        next.set[0] = number[0];
        next.set[1] = number[1];
        next.draw = now.draw;
        next.beasts = come;
        now = next;
        return come.size();
    }

    int count(int what) {
        int sated = 0;
        int drunk = 0;
        for (int b = 0; b < now.beasts.size(); b++) {
            sated |= now.beasts.get(b).sated() ? 1 << b : 0;
            drunk += now.beasts.get(b).drunk;
        }
        if (!in(what, 0, 15)) return BAD;
        return new int[] {now.beasts.size(), now.minute, now.set[0], now.trough, now.wear, now.spliced,
            now.ahead.size(), sated, drunk, now.set[1], now.set[2], now.set[3], now.set[4], now.set[5], now.set[6],
            now.puller}[what];
    }

    private int pass(int n, boolean drift) {
        if (!in(n, 1, 60)) return BAD;
        if (now.minute + n > 9999) return FULL;
        int drunk = 0;
        now.broke = 0;
        for (int k = 0; k < n; k++) {
            now.ahead.addLast(now.twin());
            if (now.ahead.size() > 8) now.ahead.removeFirst();
            drunk += now.minute(drift, 127);
        }
        return drift ? now.broke : drunk;
    }

    int minutes(int n) {
        return pass(n, false);
    }

    int drift(int n) {
        return pass(n, true);
    }

    int undo() {
        if (now.ahead.isEmpty()) return NONE;
        State then = now.ahead.removeLast();
        now.set[0] = then.set[0];
        now.trough = then.trough;
        now.wear = then.wear;
        now.spliced = then.spliced;
        now.minute = then.minute;
        now.draw = then.draw;
        for (int b = 0; b < now.beasts.size(); b++) {
            now.beasts.get(b).backTo(then.beasts.get(b));
        }
        return now.ahead.size();
    }

    int seed(int v) {
        if (v < 0) return BAD;
        int was = (int) now.draw;
        now.draw = v;
        return was;
    }

    int water(int n) {
        if (!in(n, 0, 240)) return BAD;
        State s = now.twin();
        for (int k = 0; k < n; k++) s.minute(false, 127);
        return s.set[0];
    }

    int done(int beast) {
        return has(beast) ? now.done(beast) : BAD;
    }

    int all() {
        return now.all();
    }

    int height(int what) {
        if (!in(what, 0, 1)) return BAD;
        int[] when = new int[61];
        for (int f = 0; f <= 60; f++) {
            State s = now.twin();
            s.set[5] = f;
            when[f] = s.all();
        }
        for (int t = 0; t <= 240; t++) {
            for (int f = 0; f <= 60; f++) {
                if (when[f] == t) return what == 0 ? f : t;
            }
        }
        return NONE;
    }

    int pulls(int what) {
        if (!in(what, 0, 1)) return BAD;
        int[] when = new int[now.beasts.size() + 1];
        for (int p = 0; p < when.length; p++) {
            State s = now.twin();
            s.puller = p == 0 ? NONE : p - 1;
            when[p] = s.all();
        }
        for (int t = 0; t <= 240; t++) {
            for (int p = 0; p < when.length; p++) {
                if (when[p] == t) return what == 1 ? t : p == 0 ? 7 : p - 1;
            }
        }
        return NONE;
    }

    int waits(int herd, int law) {
        return in(herd, 0, 1) && in(law, 0, 3) ? now.waits(herd, law) : BAD;
    }

    private int best(int what, boolean greater) {
        if (!in(what, 0, 1)) return BAD;
        int[] sum = new int[4];
        int law = 0;
        for (int k = 0; k < 4; k++) {
            int a = now.waits(0, k);
            int b = now.waits(1, k);
            sum[k] = greater ? Math.max(a, b) : a + b;
            if (sum[k] < sum[law]) law = k;
        }
        return what == 0 ? law : sum[law];
    }

    int least(int what) {
        return best(what, false);
    }

    int both(int what) {
        return best(what, true);
    }

    int wholly(int n, int what) {
        if (!in(n, 0, 240) || !in(what, 0, 1)) return BAD;
        int best = 0;
        int most = -1;
        for (int set = 0; set < 1 << now.beasts.size(); set++) {
            if (now.puller != NONE && (set & 1 << now.puller) != 0) continue;
            State s = now.twin();
            for (int k = 0; k < n; k++) s.minute(false, set);
            if (s.satedCount() > most) {
                most = s.satedCount();
                best = set;
            }
        }
        return what == 0 ? best : most;
    }

    int drank(int v, int what) {
        if (!in(v, 0, 999) || !in(what, 0, 1)) return BAD;
        List<Integer> sets = new ArrayList<>();
        for (int set = 0; set < 1 << now.beasts.size(); set++) {
            int sum = 0;
            for (int b = 0; b < now.beasts.size(); b++) {
                if ((set & 1 << b) != 0) sum += now.beasts.get(b).needs() - now.beasts.get(b).drunk;
            }
            if (sum == v) sets.add(set);
        }
        return what == 0 ? sets.size() : sets.isEmpty() ? NONE : sets.get(0);
    }

    int holds(int n) {
        if (!in(n, 0, 240)) return BAD;
        long hold = 1000000;
        int wear = now.wear;
        for (int k = 0; k < n; k++) {
            wear++;
            hold = hold * (100 - Math.min(100, wear / 10)) / 100;
        }
        return (int) hold;
    }

    int image() {
        kept = now.twinWithPast();
        return 1;
    }

    int restore() {
        if (kept == null) return NONE;
        now = kept.twinWithPast();
        return 1;
    }

    private static int lane(Object row) {
        return row instanceof byte[] ? 0 : row instanceof short[] ? 1 : row instanceof int[] ? 2 : 3;
    }

    private static int size(Object row) {
        return java.lang.reflect.Array.getLength(row);
    }

    private static void put(Object row, int i, long v) {
        if (row instanceof byte[] bytes) bytes[i] = (byte) v;
        else if (row instanceof short[] shorts) shorts[i] = (short) v;
        else if (row instanceof int[] ints) ints[i] = (int) v;
        else if (row instanceof long[] longs) longs[i] = v;
    }

    private int fault(int sheet, int lane, long i, long n) {
        if (!in(sheet, 0, 3) || !in(lane, 0, 3)) return BAD;
        if (rows[sheet] == null) return NULL;
        if (lane(rows[sheet]) != lane) return CAST;
        return i < 0 || i + n > size(rows[sheet]) ? INDEX : 0;
    }

    int buckets(int sheet, int lane, int i, int n) {
        if (!in(n, 1, 8)) return BAD;
        int fault = fault(sheet, lane, i, 2L * n);
        if (fault != 0) return fault;
        for (int k = 0; k < n; k++) {
            long t = java.lang.reflect.Array.getLong(rows[sheet], i + 2 * k);
            long w = java.lang.reflect.Array.getLong(rows[sheet], i + 2 * k + 1);
            if (t < 0 || t > 240 || w < 0 || w > 60) return NOT;
        }
        int set = 0;
        int was = now.set[3];
        for (int size = 1; size <= 9; size++) {
            now.set[3] = size;
            boolean so = true;
            for (int k = 0; k < n; k++) {
                long t = java.lang.reflect.Array.getLong(rows[sheet], i + 2 * k);
                so &= water((int) t) == java.lang.reflect.Array.getLong(rows[sheet], i + 2 * k + 1);
            }
            set |= so ? 1 << size : 0;
        }
        now.set[3] = was;
        return set;
    }

    int film(int n, int sheet, int lane, int i) {
        if (!in(n, 1, 24)) return BAD;
        int fault = fault(sheet, lane, i, n);
        if (fault != 0) return fault;
        for (int k = 0; k < n; k++) put(rows[sheet], i + k, water(k + 1));
        return n;
    }

    int sheet(int sheet, int lane, int n) {
        if (!in(sheet, 0, 3) || !in(lane, 0, 3) || n > 24) return BAD;
        if (n < 0) return SIZE;
        rows[sheet] = lane == 0 ? new byte[n] : lane == 1 ? new short[n] : lane == 2 ? (Object) new int[n] : new long[n];
        return n;
    }

    int drop(int sheet) {
        if (!in(sheet, 0, 3)) return BAD;
        if (rows[sheet] == null) return NULL;
        int had = size(rows[sheet]);
        rows[sheet] = null;
        return had;
    }

    int item(int sheet, int lane, int i, long v) {
        int fault = fault(sheet, lane, i, 1);
        if (fault != 0) return fault;
        put(rows[sheet], i, v);
        return 1;
    }

    int copy(int from, int i, int to, int j, int n) {
        if (!in(from, 0, 3) || !in(to, 0, 3)) return BAD;
        if (rows[from] == null || rows[to] == null) return NULL;
        if (lane(rows[from]) != lane(rows[to])) return CAST;
        try {
            System.arraycopy(rows[from], i, rows[to], j, n);
        } catch (IndexOutOfBoundsException e) {
            return INDEX;
        }
        return n;
    }
}
