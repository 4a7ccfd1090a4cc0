import java.lang.reflect.Method;
import java.util.Random;

/** Long runs of calls drawn by seeds, each answer held against the Oracle's. */
public final class OracleTest {
    private static final int RUNS = 300, CALLS = 512;
    private static final String[] TEXTS = {
        "50,4;p2,m3b,y1,g4b,p5", "60,0;g9,g9b,g1", "20,20;p1", "0,0;y9b,y8b,m7b", "9,3;g2b,p3,m9,y4b,p1b,g7,m1",
        " 6 , 2 0 ; p 1", "33,5;m2,m2,m2b", "60,0;p9,p9,p9b,g9b,g8,m9,y9b",
    };

    private final Random random;
    private final WellTurns made = new WellTurns();
    private final Oracle told = new Oracle();
    private final StringBuilder calls = new StringBuilder();
    private final int run;
    private int left = CALLS;

    private OracleTest(int run) {
        this.run = run;
        this.random = new Random(7919L * run + 5);
    }

    public static void main(String[] args) {
        for (int run = 0; run < RUNS && Due.wrongs() == 0; run++) {
            new OracleTest(run).play();
        }
        Due.end();
    }

    private void play() {
        boolean crowded = random.nextBoolean();
        for (int k = 0; crowded && k < 5; k++) {
            answer("beast", random.nextInt(4), 1 + random.nextInt(9), random.nextInt(2));
        }
        while (left > 0 && Due.wrongs() == 0) {
            switch (random.nextInt(12)) {
                case 0: people(); break;
                case 1: text(); break;
                case 2: case 3: set(); break;
                case 4: case 5: case 6: pass(); break;
                case 7: case 8: foretold(); break;
                case 9: case 10: sheets(); break;
                default: look(); break;
            }
        }
    }

    /** A number of the range, now and then one beside it. */
    private int near(int low, int high) {
        switch (random.nextInt(40)) {
            case 0: return low - 1;
            case 1: return high + 1;
            case 2: return random.nextInt();
            case 3: return random.nextBoolean() ? Integer.MIN_VALUE : Integer.MAX_VALUE;
            case 4: return low;
            case 5: return high;
            default: return low + random.nextInt(high - low + 1);
        }
    }

    private int someBeast() {
        int n = told.now.beasts.size();
        return near(0, Math.max(0, n - 1));
    }

    private void people() {
        if (random.nextInt(3) == 0) {
            answer("beast", near(0, 3), near(1, 9), near(0, 1));
        } else {
            answer("pull", random.nextInt(4) == 0 ? WellTurns.NONE : someBeast());
        }
    }

    private void text() {
        if (random.nextInt(3) != 0) {
            return;
        }
        StringBuilder text = new StringBuilder(TEXTS[random.nextInt(TEXTS.length)]);
        String signs = "0123456789,;pmygb  bxA~,;";
        for (int k = random.nextInt(5) - 2; k > 0; k--) {
            int p = random.nextInt(text.length());
            char sign = signs.charAt(random.nextInt(signs.length()));
            switch (random.nextInt(3)) {
                case 0: text.insert(p, sign); break;
                case 1: text.setCharAt(p, sign); break;
                default: text.setLength(p + 1); break;
            }
        }
        for (int p = 0; p < text.length() && left > 1; p++) {
            answer("type", text.charAt(p));
        }
        answer("caravan");
    }

    private void set() {
        switch (random.nextInt(8)) {
            case 0: answer("well", 0, near(0, 60)); break;
            case 1: answer("well", 1, near(0, 20)); break;
            case 2: answer("well", 2, random.nextBoolean() ? near(1, 5) : near(1, 40)); break;
            case 3: answer("well", 3, near(1, 9)); break;
            case 4: answer("well", 4, near(1, 7)); break;
            case 5: answer("well", 5, random.nextBoolean() ? 0 : near(0, 60)); break;
            case 6: answer("well", 6, near(0, 3)); break;
            default: answer("well", near(0, 6), near(0, 9)); break;
        }
    }

    private void pass() {
        switch (random.nextInt(9)) {
            case 0: case 1: answer("minutes", near(1, 8)); break;
            case 2: answer("minutes", near(1, 60)); break;
            case 3: case 4: answer("drift", near(1, 9)); break;
            case 5: answer("drift", near(1, 60)); break;
            case 6: answer("seed", random.nextInt()); break;
            default: answer("undo"); break;
        }
    }

    private void foretold() {
        switch (random.nextInt(13)) {
            case 0: answer("water", near(0, 240)); break;
            case 1: answer("done", someBeast()); break;
            case 2: answer("all"); break;
            case 3: answer("height", near(0, 1)); break;
            case 4: answer("pulls", near(0, 1)); break;
            case 5: answer("waits", near(0, 1), near(0, 3)); break;
            case 6: answer("least", near(0, 1)); break;
            case 7: answer("both", near(0, 1)); break;
            case 8: answer("wholly", random.nextInt(6) == 0 ? near(0, 240) : near(0, 40), near(0, 1)); break;
            case 9: answer("drank", random.nextInt(3) == 0 ? near(0, 999) : near(0, 60), near(0, 1)); break;
            case 10: answer("holds", near(0, 240)); break;
            case 11: answer("image"); break;
            default: answer("restore"); break;
        }
    }

    private void sheets() {
        int s = near(0, 3);
        int lane = told.rows.length > s && s >= 0 && told.rows[s] != null && random.nextInt(8) != 0
            ? laneOf(told.rows[s]) : near(0, 3);
        switch (random.nextInt(8)) {
            case 0: answer("sheet", s, lane, near(0, 24)); break;
            case 1: answer("film", near(1, 24), s, lane, near(0, 10)); break;
            case 2: answer("item", s, lane, near(0, 24), random.nextInt(3) == 0 ? random.nextLong() : near(0, 240)); break;
            case 3: answer("copy", near(0, 3), near(0, 12), near(0, 3), near(0, 12), near(0, 12)); break;
            case 4: answer("drop", random.nextInt(3) == 0 ? s : near(-2, 9)); break;
            case 5: answer("buckets", s, lane, near(0, 10), near(1, 8)); break;
            default: seen(s, lane); break;
        }
    }

    /** Heights as some bucket would leave them, now and then one wrong. */
    private void seen(int s, int lane) {
        answer("sheet", s, lane, 24);
        int n = 1 + random.nextInt(3);
        int was = told.now.set[3];
        told.now.set[3] = 1 + random.nextInt(9);
        int[] when = new int[n];
        int[] water = new int[n];
        for (int k = 0; k < n; k++) {
            when[k] = random.nextInt(4) == 0 ? random.nextInt(241) : random.nextInt(20);
            water[k] = told.water(when[k]) + (random.nextInt(12) == 0 ? 1 : 0);
        }
        told.now.set[3] = was;
        for (int k = 0; k < n; k++) {
            answer("item", s, lane, 2 + 2 * k, when[k]);
            answer("item", s, lane, 3 + 2 * k, water[k]);
        }
        answer("buckets", s, lane, 2, n);
    }

    private static int laneOf(Object row) {
        return row instanceof byte[] ? 0 : row instanceof short[] ? 1 : row instanceof int[] ? 2 : 3;
    }

    private void look() {
        switch (random.nextInt(5)) {
            case 0: answer("of", someBeast(), near(0, 8)); break;
            case 1: answer("turn", someBeast()); break;
            case 2: answer("count", near(0, 15)); break;
            case 3:
                for (int b = 0; b < told.now.beasts.size(); b++) {
                    answer("of", b, 4);
                    answer("of", b, 7);
                    answer("turn", b);
                }
                break;
            default:
                for (int what = 0; what < 16; what++) {
                    answer("count", what);
                }
                break;
        }
    }

    private void answer(String call, long... a) {
        if (left <= 0) {
            return;
        }
        left--;
        StringBuilder words = new StringBuilder(call).append('(');
        for (int k = 0; k < a.length; k++) {
            words.append(k == 0 ? "" : ", ").append(a[k]);
        }
        words.append(")");
        calls.append(words).append("; ");
        Due.is("run " + run + ": " + words, call(made, call, a), call(told, call, a));
        if (Due.wrongs() > 0) {
            System.out.println(calls);
        }
    }

    /** Both bear every call under the same name, each name once. */
    private static int call(Object on, String name, long[] a) {
        for (Method method : on.getClass().getDeclaredMethods()) {
            Class<?>[] types = method.getParameterTypes();
            if (method.getName().equals(name) && types.length == a.length) {
                Object[] given = new Object[a.length];
                for (int k = 0; k < a.length; k++) {
                    given[k] = types[k] == long.class ? (Object) a[k] : (Object) (int) a[k];
                }
                try {
                    return (int) method.invoke(on, given);
                } catch (ReflectiveOperationException e) {
                    throw new IllegalStateException(name, e);
                }
            }
        }
        throw new IllegalArgumentException(name);
    }
}
