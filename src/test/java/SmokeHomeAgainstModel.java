import java.util.ArrayList;
import java.util.Arrays;
import java.util.List;
import java.util.Random;
import java.util.TreeMap;
import java.util.function.Consumer;
import java.util.function.ToIntFunction;
import java.util.regex.Matcher;
import java.util.regex.Pattern;

/**
 * Runs of drawn calls on SmokeHome and on a model of the document that is written otherwise:
 * every trial on a fresh copy, every choice tried, texts by regular expressions.
 */
public final class SmokeHomeAgainstModel {
    private static final String[] CALLS = {
        "wood", "cell", "wind", "fire", "of", "change", "go", "now", "ahead", "grown", "when", "stuck",
        "crosses", "windFor", "homeFor", "build", "kindFor", "logsFor", "quench", "fits", "kinds", "winds",
        "odds", "seed", "feed", "wipe", "text", "hold", "as", "sheet", "write", "copy", "load", "judge",
        "image", "undo", "tear", "count", "status"
    };
    private static final int RUNS = 400;
    private static final int CALLS_A_RUN = 512;

    public static void main(String[] args) throws Exception {
        int wrong = 0;
        TreeMap<String, int[]> seen = new TreeMap<>();
        for (int run = 0; run < RUNS && wrong < 20; run++) {
            wrong += oneRun(run, seen);
        }
        wrong += unseen(seen);
        System.out.println(wrong == 0 ? "all answers are as the model's" : wrong + " are not");
        if (wrong != 0) {
            System.exit(1);
        }
    }

    private static int oneRun(int run, TreeMap<String, int[]> seen) throws Exception {
        Random random = new Random(7919L * run + 13);
        SmokeHome x = new SmokeHome();
        Model m = new Model();
        boolean gentle = run % 4 != 0;
        for (int i = 0; i < CALLS_A_RUN; i++) {
            String name = CALLS[random.nextInt(CALLS.length)];
            if (m.fires.size() < 4 && random.nextInt(3) == 0) {
                name = "fire";
            }
            if (dear(name) && random.nextInt(3) > 0) {
                name = "go";
            }
            int[] a = arguments(name, random, m, gentle);
            if (name.equals("feed") && random.nextBoolean()) {
                for (int b : sampleText(random).getBytes("ISO-8859-1")) {
                    x.feed(b, 1);
                    m.call("feed", new int[] {b, 1});
                }
            }
            long got = answer(x, name, a);
            long want = m.call(name, a);
            seen.computeIfAbsent(name, k -> new int[2])[want < -1000000 ? 1 : 0]++;
            if (got != want) {
                System.out.println("run " + run + ", call " + i + ": " + name + Arrays.toString(a)
                        + " answered " + got + ", the model " + want);
                return 1;
            }
        }
        return 0;
    }

    private static boolean dear(String name) {
        return name.equals("logsFor") || name.equals("quench") || name.equals("undo") || name.equals("wipe");
    }

    private static int unseen(TreeMap<String, int[]> seen) {
        int missing = 0;
        for (String name : CALLS) {
            int[] times = seen.getOrDefault(name, new int[2]);
            if (times[0] == 0) {
                System.out.println("never answered but with a finding: " + name);
                missing++;
            }
        }
        return missing;
    }

    private static int[] arguments(String name, Random r, Model m, boolean gentle) {
        if (!gentle && r.nextInt(6) == 0) {
            int[] wild = new int[arity(name)];
            int[] edges = {-2, -1, 0, 1, 25, 41, 101, 1000, 10000, Integer.MAX_VALUE, Integer.MIN_VALUE};
            for (int i = 0; i < wild.length; i++) {
                wild[i] = edges[r.nextInt(edges.length)];
            }
            return wild;
        }
        int cell = r.nextInt(25);
        int fire = r.nextInt(r.nextInt(10) == 0 ? 9 : Math.max(1, m.fires.size()));
        int s = r.nextInt(r.nextInt(12) == 0 ? 6 : 4) - (r.nextInt(30) == 0 ? 1 : 0);
        switch (name) {
            case "wood": return ints(cell, r.nextInt(3) == 0 ? 9950 + r.nextInt(52) : r.nextInt(60));
            case "cell": return ints(cell, r.nextInt(5));
            case "wind": return ints(r.nextInt(6));
            case "fire": return ints(r.nextInt(7), cell, r.nextInt(25));
            case "of": return ints(fire, r.nextInt(11));
            case "change": return changing(r, fire, cell);
            case "go": return ints(1 + r.nextInt(r.nextInt(4) == 0 ? 61 : 4));
            case "now": return ints(r.nextInt(8));
            case "ahead": return ints(fire, 2 + r.nextInt(6), few(r, 102));
            case "grown": return ints(homeOf(m, fire, cell), few(r, 102));
            case "when": return ints(homeOf(m, fire, cell), r.nextInt(200));
            case "stuck": return ints(fire);
            case "windFor": return ints(few(r, 42));
            case "homeFor": return ints(fire, cell, few(r, 42));
            case "build": return ints(fire, few(r, 42));
            case "kindFor": return ints(fire, few(r, 42));
            case "logsFor": {
                int at = homeOf(m, fire, cell);
                return ints(fire, at, Math.min(10000, m.wood[at] + r.nextInt(60)), few(r, 42));
            }
            case "quench": return ints(few(r, 22));
            case "fits":
            case "kinds": return ints(s, fire);
            case "winds": return ints(few(r, 22));
            case "odds": return ints(fire, r.nextInt(28), r.nextInt(3));
            case "seed": return ints(r.nextInt());
            case "feed": return ints(r.nextInt(), r.nextInt(6));
            case "hold": return ints(r.nextInt(11), fire - (r.nextInt(6) == 0 ? fire + 1 : 0));
            case "as": return ints(r.nextInt(11), r.nextInt(8));
            case "sheet": return ints(s, new int[] {8, 16, 32, 0, 9}[Math.min(4, r.nextInt(14) / 3)], r.nextInt(20) == 0 ? -1 : few(r, 42));
            case "write": return writing(r, m, s, fire);
            case "copy": return ints(s, r.nextInt(6), r.nextInt(4), r.nextInt(6), r.nextInt(8) - (r.nextInt(20) == 0 ? 8 : 0));
            case "load":
            case "judge": return ints(s);
            case "count": return ints(r.nextInt(9));
            case "status": return ints(r.nextInt(10) - 2);
            default: return new int[0];
        }
    }

    private static int[] changing(Random r, int fire, int cell) {
        int what = r.nextInt(8);
        int[] most = {7, 25, 25, 1000, 25, 1000, 10000, 3};
        int v = r.nextInt(most[what] + (r.nextInt(20) == 0 ? 1 : 0));
        if (what == 6 && r.nextInt(3) > 0) {
            v = r.nextInt(8);
        }
        if ((what == 3 || what == 5) && r.nextBoolean()) {
            v = r.nextInt(40);
        }
        return ints(fire, what, v);
    }

    /** Mostly what will be so, that fits(), kinds() and judge() have something to find. */
    private static int[] writing(Random r, Model m, int s, int fire) {
        int i = r.nextInt(5);
        int v = r.nextInt(3) == 0 ? -1 : r.nextInt(26);
        if (fire < m.fires.size() && r.nextInt(3) > 0) {
            Model t = m.after(x -> { }, i);
            v = t.fires.get(fire).at;
        } else if (r.nextInt(3) == 0) {
            v = m.wood[i];
        } else if (r.nextInt(4) == 0) {
            v = r.nextInt();
        }
        return ints(s, i, v);
    }

    private static int homeOf(Model m, int fire, int cell) {
        return fire < m.fires.size() && (cell & 3) != 0 ? m.fires.get(fire).home : cell;
    }

    private static int few(Random r, int most) {
        return r.nextInt(r.nextInt(3) == 0 ? most : Math.min(most, 12));
    }

    private static String sampleText(Random r) {
        String[] words = {"fire", "stove", "priest", "poor", "jar", "foreign", "bed"};
        StringBuilder text = new StringBuilder();
        int items = 1 + r.nextInt(3);
        for (int i = 0; i < items; i++) {
            text.append(i > 0 ? ";" : "").append(r.nextBoolean() ? " " : "");
            int form = r.nextInt(5);
            if (form == 0) {
                text.append("wind ").append(r.nextInt(r.nextInt(5) == 0 ? 7 : 5));
            } else if (form == 1) {
                text.append("wood ").append(r.nextInt(26)).append(' ').append(r.nextInt(10100));
            } else {
                text.append(words[r.nextInt(7)]);
                text.append(r.nextInt(3) > 0 ? " at " + r.nextInt(26) : "");
                text.append(r.nextInt(3) > 0 ? " home" + r.nextInt(26) : "");
                text.append(r.nextInt(3) > 0 ? " logs 0" + r.nextInt(1005) : "");
            }
        }
        if (r.nextInt(4) == 0) {
            text.insert(r.nextInt(text.length()), " ;x0@A\t\u00e9".charAt(r.nextInt(8)));
        }
        if (r.nextInt(6) == 0) {
            text.setLength(r.nextInt(text.length()));
        }
        return text.toString();
    }

    private static int[] ints(int... all) {
        return all;
    }

    private static java.lang.reflect.Method method(String name) {
        for (java.lang.reflect.Method method : SmokeHome.class.getDeclaredMethods()) {
            if (method.getName().equals(name)) {
                return method;
            }
        }
        throw new IllegalStateException(name);
    }

    private static int arity(String name) {
        return method(name).getParameterCount();
    }

    private static long answer(SmokeHome x, String name, int[] a) throws Exception {
        Object[] boxed = Arrays.stream(a).boxed().toArray();
        return ((Number) method(name).invoke(x, boxed)).longValue();
    }

    /** What an act throws when it tells a finding. */
    private static final class Told extends RuntimeException {
        final int which;

        Told(int which) {
            super(null, null, false, false);
            this.which = which;
        }
    }

    private static final class F {
        int kind, chimney, home, logs, at, much, waited;

        F(int kind, int chimney, int home, int logs) {
            this.kind = kind;
            this.chimney = chimney;
            this.home = home;
            this.logs = logs;
            at = chimney;
        }

        F(F f) {
            this(f.kind, f.chimney, f.home, f.logs);
            at = f.at;
            much = f.much;
            waited = f.waited;
        }

        int[] row() {
            return new int[] {kind, chimney, home, logs, at, much, waited};
        }

        void set(int what, int v) {
            if (what == 0) kind = v;
            if (what == 1) chimney = v;
            if (what == 2) home = v;
            if (what == 3) logs = v;
            if (what == 4) at = v;
            if (what == 5) much = v;
            if (what == 6) waited = v;
        }
    }

    private static final class Model {
        int[] wood = new int[25];
        int wind, crossed, hour;
        int z = 1;
        List<F> fires = new ArrayList<>();
        Integer[] spots = new Integer[10];
        List<Integer> tape = new ArrayList<>();
        int[][] sheets = new int[4][];
        int[] bits = new int[4];
        int[] told = new int[7];
        Model kept;

        static Model of(Model m) {
            Model c = new Model();
            c.wood = m.wood.clone();
            c.wind = m.wind;
            c.crossed = m.crossed;
            c.hour = m.hour;
            c.z = m.z;
            for (F f : m.fires) c.fires.add(new F(f));
            c.spots = m.spots.clone();
            return c;
        }

        Model after(Consumer<Model> first, int n) {
            Model c = of(this);
            first.accept(c);
            for (int i = 0; i < n; i++) c.hour();
            return c;
        }

        int burns(F f) {
            int poor = 1 + (hour % 2 == 0 ? 2 : 0);
            return new int[] {2, 5, 1, poor, poor, 2, 10}[f.kind];
        }

        int steps(F f) {
            return new int[] {1, 2, hour % 3 == 0 ? 1 : 0, 1, f.waited >= 5 ? 3 : 1, 1, 3}[f.kind];
        }

        void hour() {
            int[] began = fires.stream().mapToInt(f -> f.at).toArray();
            for (F f : fires) {
                if (f.at != f.chimney || f.chimney == f.home) continue;
                int b = Math.min(burns(f), f.logs);
                f.logs -= b;
                f.much = Math.min(999, f.much + b);
            }
            for (F f : fires) walk(f);
            for (int b = 1, a = 0; a < fires.size(); b++) {
                if (b >= fires.size()) { a++; b = a; continue; }
                F p = fires.get(a), q = fires.get(b);
                if (p.at != q.at || p.much == 0 || q.much == 0) continue;
                if (began[a] == p.at && began[b] == q.at) continue;
                int fromP = p.much / 4, fromQ = q.much / 4;
                p.much = p.much - fromP + fromQ;
                q.much = q.much - fromQ + fromP;
                crossed = Math.min(99999, crossed + 1);
            }
            for (F f : fires) {
                if (f.at != f.home) continue;
                wood[f.at] = Math.min(9999, wood[f.at] + f.much);
                f.much = 0;
                f.at = f.chimney;
            }
            hour = Math.min(99999, hour + 1);
        }

        void walk(F f) {
            if (f.much == 0) return;
            for (int left = steps(f); left > 0 && f.at != f.home; left--) {
                int dr = Integer.signum(f.home / 5 - f.at / 5), dc = Integer.signum(f.home % 5 - f.at % 5);
                if (f.kind == 3 || f.kind == 4) { if (dc != 0) dr = 0; } else if (dr != 0) dc = 0;
                int[][] blow = {{0, 0}, {-1, 0}, {0, 1}, {1, 0}, {0, -1}};
                boolean against = blow[wind][0] == -dr && blow[wind][1] == -dc;
                boolean bears = f.kind == 4 || f.kind == 5 && f.much > 20;
                if (against && !bears) {
                    f.waited = Math.min(9999, f.waited + 1);
                    return;
                }
                f.at += 5 * dr + dc;
            }
        }

        long call(String name, int[] a) {
            try {
                return act(name, a);
            } catch (Told t) {
                told[t.which]++;
                return -1000001 - t.which;
            }
        }

        static void in(int v, int least, int most) {
            if (v < least || v > most) throw new Told(0);
        }

        F at(int fire) {
            in(fire, 0, fires.size() - 1);
            return fires.get(fire);
        }

        int woods() {
            return Arrays.stream(wood).sum();
        }

        static int bitsOf(int n, java.util.function.IntPredicate p) {
            int set = 0;
            for (int i = 0; i < n; i++) if (p.test(i)) set += 1 << i;
            return set;
        }

        int firesThat(java.util.function.Predicate<F> p) {
            return bitsOf(fires.size(), i -> p.test(fires.get(i)));
        }

        int[] sheet(int s) {
            in(s, 0, 3);
            if (sheets[s] == null) throw new Told(5);
            return sheets[s];
        }

        static int best(int n, java.util.function.IntUnaryOperator worth) {
            int best = 0;
            for (int v = 1; v < n; v++) if (worth.applyAsInt(v) > worth.applyAsInt(best)) best = v;
            return best;
        }

        int first(int least, ToIntFunction<Model> good) {
            for (int n = least; n <= 100; n++) if (good.applyAsInt(after(m -> { }, n)) != 0) return n;
            throw new Told(3);
        }

        long act(String name, int[] a) {
            switch (name) {
                case "wood": { in(a[0], 0, 24); in(a[1], 0, 9999); int was = wood[a[0]]; wood[a[0]] = a[1]; return was; }
                case "cell": {
                    in(a[0], 0, 24); in(a[1], 0, 3);
                    if (a[1] == 0) return wood[a[0]];
                    return firesThat(f -> (a[1] == 1 ? f.chimney : a[1] == 2 ? (f.much > 0 ? f.at : -1) : f.home) == a[0]);
                }
                case "wind": { in(a[0], 0, 4); int was = wind; wind = a[0]; return was; }
                case "fire": {
                    in(a[0], 0, 6); in(a[1], 0, 24); in(a[2], 0, 24);
                    if (fires.size() == 8) throw new Told(1);
                    fires.add(new F(a[0], a[1], a[2], 50));
                    return fires.size() - 1;
                }
                case "of": {
                    F f = at(a[0]); in(a[1], 0, 9);
                    if (a[1] < 7) return f.row()[a[1]];
                    if (a[1] == 7) return burns(f);
                    if (a[1] == 8) return steps(f);
                    return Math.abs(f.at / 5 - f.home / 5) + Math.abs(f.at % 5 - f.home % 5);
                }
                case "change": {
                    F f = at(a[0]); in(a[1], 0, 6);
                    in(a[2], 0, new int[] {6, 24, 24, 999, 24, 999, 9999}[a[1]]);
                    int was = f.row()[a[1]];
                    f.set(a[1], a[2]);
                    return was;
                }
                case "go": { in(a[0], 1, 60); late(a[0]); for (int i = 0; i < a[0]; i++) hour(); return woods(); }
                case "now": return now(a[0]);
                case "ahead": { at(a[0]); in(a[1], 3, 6); in(a[2], 0, 100); return after(m -> { }, a[2]).fires.get(a[0]).row()[a[1]]; }
                case "grown": { in(a[0], 0, 24); in(a[1], 0, 100); return after(m -> { }, a[1]).wood[a[0]]; }
                case "when": { in(a[0], 0, 24); in(a[1], 0, 9999); return first(0, m -> m.wood[a[0]] >= a[1] ? 1 : 0); }
                case "stuck": { F f = at(a[0]); return first(1, m -> m.fires.get(a[0]).waited > f.waited ? 1 : 0); }
                case "crosses": return first(1, m -> m.crossed > crossed ? 1 : 0);
                case "windFor": { in(a[0], 0, 40); return best(5, v -> after(m -> m.wind = v, a[0]).woods()); }
                case "homeFor": { at(a[0]); in(a[1], 0, 24); in(a[2], 0, 40); return best(25, v -> after(m -> m.fires.get(a[0]).home = v, a[2]).wood[a[1]]); }
                case "build": { at(a[0]); in(a[1], 0, 40); return best(25, v -> -after(m -> m.fires.get(a[0]).chimney = m.fires.get(a[0]).at = v, a[1]).fires.get(a[0]).waited); }
                case "kindFor": { at(a[0]); in(a[1], 0, 40); return best(7, v -> after(m -> m.fires.get(a[0]).kind = v, a[1]).woods()); }
                case "logsFor": {
                    at(a[0]); in(a[1], 0, 24); in(a[2], 0, 9999); in(a[3], 0, 40);
                    for (int v = 0; v <= 200; v++) {
                        int logs = v;
                        if (after(m -> m.fires.get(a[0]).logs = logs, a[3]).wood[a[1]] >= a[2]) return v;
                    }
                    throw new Told(3);
                }
                case "quench": return quench(a[0]);
                case "fits": return likewise(a[0], a[1], 2, 25);
                case "kinds": return likewise(a[0], a[1], 0, 7);
                case "winds": {
                    in(a[0], 1, 20); late(a[0]);
                    for (int i = 0; i < a[0]; i++) {
                        z = (int) (z * 1103515245L + 12345L);
                        wind = (int) ((z & 0xffffffffL) / 256 % 5);
                        hour();
                    }
                    return woods();
                }
                case "odds": {
                    F f = at(a[0]); in(a[1], 0, 26); in(a[2], 0, 1);
                    if (f.chimney == f.home) return 1;
                    return java.math.BigInteger.valueOf(4 + a[2]).pow(a[1]).longValueExact();
                }
                case "seed": { int was = z; z = a[0]; return was; }
                case "feed": {
                    in(a[1], 1, 4);
                    if (tape.size() + a[1] > 120) throw new Told(1);
                    for (int i = a[1] - 1; i >= 0; i--) tape.add(a[0] >> 8 * i & 255);
                    return tape.size();
                }
                case "wipe": { int had = tape.size(); tape.clear(); return had; }
                case "text": return text();
                case "hold": {
                    in(a[0], 0, 9); in(a[1], -1, fires.size() - 1);
                    spots[a[0]] = a[1] < 0 ? null : Integer.valueOf(a[1]);
                    return 1;
                }
                case "as": {
                    in(a[0], 0, 9); in(a[1], 0, 6);
                    if (spots[a[0]] == null) throw new Told(5);
                    String above = new String[] {"0", "10", "20", "320", "4320", "50", "610"}[fires.get(spots[a[0]]).kind];
                    if (above.indexOf('0' + a[1]) < 0) throw new Told(2);
                    return spots[a[0]];
                }
                case "sheet": {
                    in(a[0], 0, 3);
                    if (!List.of(0, 8, 16, 32).contains(a[1])) throw new Told(0);
                    if (a[2] < 0) throw new Told(6);
                    in(a[2], 0, 40);
                    bits[a[0]] = a[1];
                    sheets[a[0]] = a[1] == 0 ? null : new int[a[2]];
                    return a[1] == 0 ? 0 : a[2];
                }
                case "write": {
                    int[] row = sheet(a[0]);
                    in(a[1], 0, row.length - 1);
                    int up = 32 - bits[a[0]];
                    row[a[1]] = a[2] << up >> up;
                    return 1;
                }
                case "copy": {
                    in(a[0], 0, 3); in(a[2], 0, 3);
                    int[] from = sheet(a[0]), to = sheet(a[2]);
                    if (bits[a[0]] != bits[a[2]]) throw new Told(2);
                    if (a[1] < 0 || a[3] < 0 || a[4] < 0) throw new Told(0);
                    if ((long) a[1] + a[4] > from.length || (long) a[3] + a[4] > to.length) throw new Told(0);
                    int[] part = Arrays.copyOfRange(from, a[1], a[1] + a[4]);
                    for (int i = 0; i < a[4]; i++) to[a[3] + i] = part[i];
                    return a[4];
                }
                case "load": {
                    int[] row = sheet(a[0]);
                    for (int i = 0; i < row.length; i++) {
                        if (i >= fires.size() || row[i] < 0 || row[i] > 999) return i;
                        fires.get(i).logs = row[i];
                    }
                    return row.length;
                }
                case "judge": {
                    int[] row = sheet(a[0]);
                    for (int i = 0; i < row.length; i++) if (i > 24 || row[i] != wood[i]) return i + 1;
                    return 0;
                }
                case "image": { kept = of(this); return 1; }
                case "undo": {
                    if (kept == null) throw new Told(3);
                    become(of(kept));
                    return hour;
                }
                case "tear": { int was = kept == null ? 0 : 1; kept = null; return was; }
                case "count": {
                    in(a[0], 0, 7);
                    int held = (int) Arrays.stream(spots).filter(s -> s != null).count();
                    int smoke = fires.stream().mapToInt(f -> f.much).sum();
                    return new int[] {hour, fires.size(), smoke, crossed, woods(), tape.size(), z, held}[a[0]];
                }
                case "status": { in(a[0], -1, 6); return a[0] < 0 ? Arrays.stream(told).sum() : told[a[0]]; }
                default: throw new IllegalStateException(name);
            }
        }

        void late(int n) {
            if (hour + n > 99999) throw new Told(4);
        }

        void become(Model c) {
            wood = c.wood;
            wind = c.wind;
            crossed = c.crossed;
            hour = c.hour;
            z = c.z;
            fires = c.fires;
            spots = c.spots;
        }

        long now(int what) {
            in(what, 0, 6);
            int smoke = fires.stream().mapToInt(f -> f.much).sum(), logs = fires.stream().mapToInt(f -> f.logs).sum();
            return new int[] {hour, woods(), smoke, crossed, logs, bitsOf(25, c -> wood[c] > 0), firesThat(f -> f.much > 0)}[what];
        }

        long quench(int n) {
            in(n, 0, 20);
            int best = -1;
            for (int set = (1 << fires.size()) - 1; set >= 0; set--) {
                int out = set;
                Model t = after(m -> {
                    for (int i = 0; i < m.fires.size(); i++) if ((out >> i & 1) == 1) m.fires.get(i).logs = m.fires.get(i).much = 0;
                }, n);
                if (t.crossed == crossed && (best < 0 || Integer.bitCount(set) <= Integer.bitCount(best))) best = set;
            }
            return best;
        }

        long likewise(int s, int fire, int what, int n) {
            int[] row = sheet(s);
            at(fire);
            return bitsOf(n, v -> {
                for (int i = 0; i < row.length; i++) {
                    if (row[i] != -1 && after(m -> m.fires.get(fire).set(what, v), i).fires.get(fire).at != row[i]) return false;
                }
                return true;
            });
        }

        /** TEXTS by a row of letters, one a TOKEN, against the forms of an ITEM. */
        long text() {
            StringBuilder read = new StringBuilder();
            for (int b : tape) read.append((char) b);
            tape.clear();
            List<String> tokens = new ArrayList<>();
            List<Integer> places = new ArrayList<>();
            Matcher matcher = Pattern.compile(" *([a-z]+|[0-9]+|[^ ])", Pattern.DOTALL).matcher(read);
            while (matcher.find()) {
                tokens.add(matcher.group(1));
                places.add(matcher.start(1));
            }
            places.add(read.length());
            Model t = of(this);
            int next = 0, items = 0;
            String expected = "item";
            F lit = null;
            int cell = 0;
            for (; next < tokens.size(); next++) {
                String token = tokens.get(next);
                int v = token.matches("[0-9]+") ? new java.math.BigInteger(token).min(java.math.BigInteger.valueOf(77777)).intValue() : -1;
                int kind = List.of("fire", "stove", "priest", "poor", "jar", "foreign", "bed").indexOf(token);
                if (expected.equals("item") && kind >= 0 && t.fires.size() < 8) {
                    lit = new F(kind, 0, 0, 50);
                    t.fires.add(lit);
                    expected = "at home logs ;";
                } else if (expected.equals("item") && (token.equals("wind") || token.equals("wood"))) {
                    expected = "number of " + token;
                } else if (expected.contains(";") && token.equals(";")) {
                    items++;
                    expected = "item";
                } else if (v < 0 && token.length() > 1 && Arrays.asList(expected.split(" ")).contains(token) && expected.endsWith(";")) {
                    expected = "number of " + token;
                } else if (expected.equals("number of at") && v >= 0 && v < 25) {
                    lit.chimney = lit.at = lit.home = v;
                    expected = "home logs ;";
                } else if (expected.equals("number of home") && v >= 0 && v < 25) {
                    lit.home = v;
                    expected = "logs ;";
                } else if (expected.equals("number of logs") && v >= 0 && v < 1000) {
                    lit.logs = v;
                    expected = ";";
                } else if (expected.equals("number of wind") && v >= 0 && v < 5) {
                    t.wind = v;
                    expected = ";";
                } else if (expected.equals("number of wood") && v >= 0 && v < 25) {
                    cell = v;
                    expected = "second number";
                } else if (expected.equals("second number") && v >= 0 && v < 10000) {
                    t.wood[cell] = v;
                    expected = ";";
                } else {
                    return -1 - places.get(next);
                }
            }
            if (!expected.endsWith(";")) {
                return -1 - read.length();
            }
            become(t);
            return items + 1;
        }
    }
}
