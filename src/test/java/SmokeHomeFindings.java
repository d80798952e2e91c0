import java.lang.reflect.Method;
import java.util.ArrayList;
import java.util.Arrays;
import java.util.List;

/**
 * Each finding that a promise names: a call that answers it, which is counted once and leaves all else as
 * it was; and of two that are due, the one that is told. Each argument is tried at its least and most, one
 * further in and one further out. What a call left as it was is seen by a twin that was spared the call:
 * both then tell all that their face can tell.
 */
public final class SmokeHomeFindings extends Checks {
    private interface Town {
        SmokeHome make();
    }

    /** The least, the most, and one between. An argument told by one number alone stays as it is. */
    private static final int[] CELL = {0, 24, 7};
    private static final int[] LIT = {0, 4, 2};
    private static final int[] WOOD = {0, 9999, 12};

    private static final List<String> TELLERS = List.of("cell", "of", "now", "ahead", "grown", "when", "stuck",
            "crosses", "windFor", "homeFor", "build", "kindFor", "logsFor", "quench", "fits", "kinds", "odds", "as",
            "judge", "count", "status");
    private static final int MAX = Integer.MAX_VALUE;
    private static final int MIN = Integer.MIN_VALUE;

    public static void main(String[] args) {
        boundsOfCellsAndFires();
        boundsOfHours();
        boundsOfWhatIsBest();
        boundsOfTextsAndSheets();
        boundsByFires();
        full();
        state();
        none();
        spots();
        whenceItWas();
        sheets();
        copies();
        faults();
        noFindings();
        thereAndBack();
        finish();
    }

    // ---- the town, and what all can be told of it

    /** Something stands in every corner that a refused call could disturb. */
    private static SmokeHome town() {
        SmokeHome x = new SmokeHome();
        x.fire(STOVE, 0, 12);
        x.fire(PRIEST, 7, 20);
        x.fire(FIRE, 12, 0);
        x.fire(JAR, 3, 18);
        x.fire(FOREIGN, 24, 4);
        x.wind(1);
        x.wood(3, 30);
        x.wood(24, 9998);
        x.hold(0, 4);
        x.hold(9, 1);
        x.go(5);
        x.image();
        x.winds(3);
        x.wind(3);
        x.change(1, 6, 21);
        x.change(0, 4, 22);
        x.hold(5, 3);
        x.hold(9, 0);
        x.wood(7, 1);
        type(x, "wood 5 123;wind 2;bed at 9");
        fill(x, 0, 8, 1, 2, 3, 4);
        fill(x, 1, 16, 300, 5);
        fill(x, 2, 32, 9999, 7, 8);
        return x;
    }

    private static SmokeHome fullTown() {
        SmokeHome x = town();
        x.fire(BED, 11, 13);
        x.fire(POOR, 24, 0);
        x.fire(FIRE, 2, 2);
        return x;
    }

    private static SmokeHome townWithTape(int bytes) {
        SmokeHome x = town();
        for (int i = x.count(5); i < bytes; i++) {
            x.feed(' ', 1);
        }
        return x;
    }

    /** Reached with more calls than the document binds: no shorter way leads there. */
    private static SmokeHome lateTown(int hour) {
        SmokeHome x = town();
        int left = hour - x.count(0);
        for (int i = 0; i < left / 60; i++) {
            x.go(60);
        }
        x.go(left % 60);
        return x;
    }

    private static SmokeHome tornTown() {
        SmokeHome x = town();
        x.tear();
        return x;
    }

    private static List<Long> all(SmokeHome x) {
        List<Long> told = new ArrayList<>();
        tellTown(x, told);
        tellSheet(x, told, 0, 1, 2, 3, 4);
        tellSheet(x, told, 1, 300, 5, 0, 0);
        tellSheet(x, told, 2, 9999, 7, 8, 0);
        tellSheet(x, told, 3, 0, 0, 0, 0);
        told.add((long) x.text());
        tellTown(x, told);
        told.add((long) x.undo());
        tellTown(x, told);
        told.add((long) x.tear());
        return told;
    }

    private static void tellTown(SmokeHome x, List<Long> told) {
        for (int what = 0; what < 8; what++) {
            told.add((long) x.count(what));
        }
        for (int fire = 0; fire < 8; fire++) {
            for (int what = 0; what < 7; what++) {
                told.add((long) x.of(fire, what));
            }
        }
        for (int cell = 0; cell < 25; cell++) {
            told.add((long) x.cell(cell, 0));
        }
        for (int spot = 0; spot < 10; spot++) {
            told.add((long) x.as(spot, 0));
        }
        int wind = x.wind(0);
        x.wind(wind);
        told.add((long) wind);
    }

    /** Whether it has these numbers, how many it has, and of how many bits. */
    private static void tellSheet(SmokeHome x, List<Long> told, int s, int... numbers) {
        for (int i = 0; i < numbers.length; i++) {
            x.wood(i, numbers[i]);
        }
        told.add((long) x.judge(s));
        for (int i = 0; i < 6; i++) {
            told.add((long) x.write(s, i, 0));
        }
        x.wood(0, 257);
        x.wood(1, 3333);
        x.write(s, 0, 257);
        told.add((long) x.judge(s));
        x.write(s, 0, 65793);
        told.add((long) x.judge(s));
    }

    // ---- how a call is tried

    private static String called(String name, int... a) {
        return name + Arrays.toString(a);
    }

    private static long answer(SmokeHome x, String name, int... a) {
        Object[] boxed = Arrays.stream(a).boxed().toArray();
        try {
            for (Method m : SmokeHome.class.getMethods()) {
                if (m.getName().equals(name) && m.getParameterCount() == a.length) {
                    return ((Number) m.invoke(x, boxed)).longValue();
                }
            }
        } catch (ReflectiveOperationException e) {
            throw new IllegalStateException(called(name, a), e);
        }
        throw new IllegalStateException(called(name, a));
    }

    private static void dueCounts(int promise, String call, SmokeHome x, long[] before, int finding) {
        for (int which = -1; which < 7; which++) {
            boolean counted = finding != 0 && (which == -1 || which == BEYOND - finding);
            due(promise, "status(" + which + ") behind " + call, x.status(which), before[which + 1] + (counted ? 1 : 0));
        }
    }

    private static long[] counts(SmokeHome x) {
        long[] told = new long[8];
        for (int which = -1; which < 7; which++) {
            told[which + 1] = x.status(which);
        }
        return told;
    }

    private static void dueSame(int promise, String call, SmokeHome x, SmokeHome twin) {
        List<Long> got = all(x);
        List<Long> want = all(twin);
        for (int i = 0; i < want.size(); i++) {
            if (!got.get(i).equals(want.get(i))) {
                due(promise, "what is told at " + i + " behind " + call, got.get(i), want.get(i));
            }
        }
        due(promise, "how much is told behind " + call, got.size(), want.size());
    }

    private static void refused(int promise, int finding, Town town, String name, int... a) {
        SmokeHome x = town.make();
        long[] before = counts(x);
        due(promise, called(name, a), answer(x, name, a), finding);
        dueCounts(promise, called(name, a), x, before, finding);
        dueSame(promise, called(name, a), x, town.make());
    }

    /** Another finding may be due of it, but not BEYOND. */
    private static void within(int promise, Town town, String name, int... a) {
        SmokeHome x = town.make();
        due(promise, called(name, a) + " is BEYOND", answer(x, name, a) == BEYOND ? 1 : 0, 0);
        due(promise, "status(0) behind " + called(name, a), x.status(0), 0);
        if (TELLERS.contains(name)) {
            dueSame(promise, called(name, a), x, town.make());
        }
    }

    private static void answered(int promise, long want, Town town, String name, int... a) {
        SmokeHome x = town.make();
        long[] before = counts(x);
        due(promise, called(name, a), answer(x, name, a), want);
        dueCounts(promise, called(name, a), x, before, 0);
    }

    private static void bounds(int promise, String name, int[]... ranges) {
        int[] usual = new int[ranges.length];
        for (int i = 0; i < ranges.length; i++) {
            usual[i] = ranges[i][ranges[i].length - 1];
        }
        within(promise, SmokeHomeFindings::town, name, usual);
        for (int i = 0; i < ranges.length; i++) {
            if (ranges[i].length == 1) {
                continue;
            }
            int least = ranges[i][0];
            int most = ranges[i][1];
            for (int v : new int[] {least, least + 1, most - 1, most}) {
                within(promise, SmokeHomeFindings::town, name, with(usual, i, v));
            }
            for (int v : new int[] {least - 1, most + 1, MIN, MAX}) {
                refused(promise, BEYOND, SmokeHomeFindings::town, name, with(usual, i, v));
                for (int j = 0; j < i; j++) {
                    if (ranges[j].length > 1) {
                        int[] both = with(with(usual, i, v), j, ranges[j][1] + 1);
                        refused(promise, BEYOND, SmokeHomeFindings::town, name, both);
                    }
                }
            }
        }
    }

    private static int[] with(int[] a, int i, int v) {
        int[] changed = a.clone();
        changed[i] = v;
        return changed;
    }

    private static int[] range(int... range) {
        return range;
    }

    // ---- BEYOND

    private static void boundsOfCellsAndFires() {
        bounds(2, "wood", CELL, WOOD);
        bounds(3, "cell", CELL, range(0, 3, 1));
        bounds(4, "wind", range(0, 4, 2));
        bounds(5, "fire", range(0, 6, 3), CELL, CELL);
        bounds(6, "of", LIT, range(0, 9, 4));
        bounds(7, "change", LIT, range(0, 6, 3), range(5));
        int[] most = {6, 24, 24, 999, 24, 999, 9999};
        for (int what = 0; what < 7; what++) {
            bounds(7, "change", LIT, range(what), range(0, most[what], 5));
        }
    }

    private static void boundsOfHours() {
        bounds(8, "go", range(1, 60, 7));
        bounds(9, "now", range(0, 6, 3));
        bounds(10, "ahead", LIT, range(3, 6, 4), range(0, 100, 9));
        bounds(11, "grown", CELL, range(0, 100, 9));
        bounds(12, "when", CELL, WOOD);
        bounds(13, "stuck", LIT);
        within(14, SmokeHomeFindings::town, "crosses");
        bounds(23, "winds", range(1, 20, 3));
        bounds(24, "odds", LIT, range(0, 26, 3), range(0, 1, 1));
    }

    private static void boundsOfWhatIsBest() {
        bounds(15, "windFor", range(0, 40, 9));
        bounds(16, "homeFor", LIT, CELL, range(0, 40, 9));
        bounds(17, "build", LIT, range(0, 40, 9));
        bounds(18, "kindFor", LIT, range(0, 40, 9));
        bounds(19, "logsFor", LIT, CELL, WOOD, range(0, 40, 9));
        bounds(20, "quench", range(0, 20, 9));
        for (int s = 0; s < 3; s++) {
            bounds(21, "fits", range(s), LIT);
            bounds(22, "kinds", range(s), LIT);
        }
        bounds(21, "fits", range(0, 3, 1), range(2));
        bounds(22, "kinds", range(0, 3, 1), range(2));
    }

    private static void boundsOfTextsAndSheets() {
        bounds(26, "feed", range(0x61626364), range(1, 4, 2));
        bounds(29, "hold", range(0, 9, 4), range(-1, 4, 2));
        bounds(30, "as", range(0, 9, 5), range(0, 6, 3));
        for (int bits : new int[] {0, 8, 16, 32}) {
            bounds(31, "sheet", range(0, 3, 1), range(bits), range(7));
            within(31, SmokeHomeFindings::town, "sheet", 0, bits, 0);
            within(31, SmokeHomeFindings::town, "sheet", 0, bits, 1);
            within(31, SmokeHomeFindings::town, "sheet", 0, bits, 39);
            within(31, SmokeHomeFindings::town, "sheet", 0, bits, 40);
        }
        bounds(32, "write", range(0, 3, 1), range(1), range(5));
        bounds(32, "write", range(0), range(0, 3, 1), range(5));
        bounds(32, "write", range(1), range(0, 1, 1), range(5));
        bounds(32, "write", range(2), range(0, 2, 1), range(5));
        bounds(33, "copy", range(0, 3, 1), range(0), range(1), range(0), range(1));
        bounds(33, "copy", range(1), range(0), range(0, 3, 1), range(0), range(1));
        bounds(34, "load", range(0, 3, 1));
        bounds(35, "judge", range(0, 3, 1));
        bounds(39, "count", range(0, 7, 2));
        bounds(40, "status", range(-1, 6, 2));
    }

    /** The most that a FIRE's number may be goes with how many there are. */
    private static void boundsByFires() {
        for (int lit : new int[] {0, 1, 7, 8}) {
            Town town = () -> townOf(lit);
            for (int fire : new int[] {lit - 1, lit, 8, -1}) {
                if (fire >= 0 && fire < lit) {
                    withFire(fire, (promise, name, a) -> within(promise, town, name, a));
                } else {
                    withFire(fire, (promise, name, a) -> refused(promise, BEYOND, town, name, a));
                    refused(29, BEYOND, town, "hold", 3, fire < 0 ? -2 : fire);
                }
            }
            answered(29, 1, town, "hold", 3, lit - 1);
            answered(29, 1, town, "hold", 3, -1);
        }
    }

    private static SmokeHome townOf(int fires) {
        SmokeHome x = new SmokeHome();
        x.sheet(0, 8, 4);
        for (int i = 0; i < fires; i++) {
            x.fire(i % 7, 2 * i, 24 - i);
        }
        x.image();
        return x;
    }

    private interface Trial {
        void of(int promise, String name, int... a);
    }

    private static void withFire(int fire, Trial trial) {
        trial.of(6, "of", fire, 0);
        trial.of(7, "change", fire, 3, 7);
        trial.of(10, "ahead", fire, 3, 2);
        trial.of(13, "stuck", fire);
        trial.of(16, "homeFor", fire, 3, 2);
        trial.of(17, "build", fire, 2);
        trial.of(18, "kindFor", fire, 2);
        trial.of(19, "logsFor", fire, 3, 0, 2);
        trial.of(21, "fits", 0, fire);
        trial.of(22, "kinds", 0, fire);
        trial.of(24, "odds", fire, 2, 0);
    }

    // ---- FULL, STATE, NONE

    private static void full() {
        Town full = SmokeHomeFindings::fullTown;
        refused(5, FULL, full, "fire", 0, 0, 0);
        refused(5, FULL, full, "fire", 6, 24, 24);
        int[][] wrong = {{-1, 0, 0}, {7, 0, 0}, {0, -1, 0}, {0, 25, 0}, {0, 0, -1}, {0, 0, 25}, {7, 25, 25}};
        for (int[] a : wrong) {
            refused(5, BEYOND, full, "fire", a);
        }
        for (int free = 0; free <= 4; free++) {
            int bytes = 120 - free;
            Town town = () -> townWithTape(bytes);
            for (int n = 1; n <= 4; n++) {
                if (n <= free) {
                    answered(26, bytes + n, town, "feed", 0x20202020, n);
                } else {
                    refused(26, FULL, town, "feed", 0x20202020, n);
                }
            }
            for (int n : new int[] {0, -1, 5, MIN, MAX}) {
                refused(26, BEYOND, town, "feed", 0x20202020, n);
            }
        }
    }

    private static void state() {
        Town late = () -> lateTown(99980);
        refused(8, STATE, late, "go", 20);
        refused(8, STATE, late, "go", 60);
        refused(8, BEYOND, late, "go", 61);
        refused(8, BEYOND, late, "go", MAX);
        refused(8, BEYOND, late, "go", 0);
        refused(23, STATE, late, "winds", 20);
        refused(23, BEYOND, late, "winds", 21);
        refused(23, BEYOND, late, "winds", MAX);
        refused(23, BEYOND, late, "winds", 0);
        within(8, late, "go", 18);
        within(8, late, "go", 19);
        within(23, late, "winds", 18);
        within(23, late, "winds", 19);
        Town last = () -> lateTown(99999);
        refused(8, STATE, last, "go", 1);
        refused(8, BEYOND, last, "go", 61);
        refused(8, BEYOND, last, "go", 0);
        refused(23, STATE, last, "winds", 1);
        refused(23, BEYOND, last, "winds", 21);
        refused(23, BEYOND, last, "winds", 0);
    }

    private static void none() {
        Town still = () -> {
            SmokeHome x = town();
            for (int fire = 0; fire < 5; fire++) {
                x.change(fire, 3, 0);
                x.change(fire, 5, 0);
            }
            x.wind(0);
            return x;
        };
        refused(12, NONE, still, "when", 8, 1);
        refused(12, NONE, still, "when", 0, 9999);
        answered(12, 0, still, "when", 8, 0);
        refused(12, BEYOND, still, "when", 25, 9999);
        refused(12, BEYOND, still, "when", -1, 9999);
        refused(12, BEYOND, still, "when", 0, 10000);
        refused(12, BEYOND, still, "when", 0, MAX);
        refused(13, NONE, still, "stuck", 0);
        refused(13, NONE, still, "stuck", 4);
        refused(13, BEYOND, still, "stuck", 5);
        refused(13, BEYOND, still, "stuck", -1);
        refused(14, NONE, still, "crosses");
        refused(19, NONE, still, "logsFor", 0, 0, 9999, 40);
        refused(19, NONE, still, "logsFor", 0, 8, 1, 0);
        refused(19, BEYOND, still, "logsFor", 5, 0, 9999, 40);
        refused(19, BEYOND, still, "logsFor", -1, 0, 9999, 40);
        refused(19, BEYOND, still, "logsFor", 0, 25, 9999, 40);
        refused(19, BEYOND, still, "logsFor", 0, -1, 9999, 40);
        refused(19, BEYOND, still, "logsFor", 0, 0, 10000, 40);
        refused(19, BEYOND, still, "logsFor", 0, 0, 9999, 41);
        refused(19, BEYOND, still, "logsFor", 0, 0, 9999, -1);
        refused(37, NONE, SmokeHomeFindings::tornTown, "undo");
        refused(37, NONE, SmokeHome::new, "undo");
    }

    // ---- MISSING, KIND, SIZE

    private static void spots() {
        Town town = SmokeHomeFindings::town;
        for (int kind = 0; kind < 7; kind++) {
            refused(30, MISSING, town, "as", 1, kind);
        }
        refused(30, BEYOND, town, "as", 1, 7);
        refused(30, BEYOND, town, "as", 1, -1);
        refused(30, BEYOND, town, "as", 10, 0);
        refused(30, BEYOND, town, "as", -1, 0);
        refused(30, KIND, town, "as", 0, STOVE);
        refused(30, KIND, town, "as", 0, BED);
        refused(30, BEYOND, town, "as", 0, 7);
        refused(30, BEYOND, town, "as", 0, -1);
        answered(30, 4, town, "as", 0, FOREIGN);
        answered(30, 3, town, "as", 5, PRIEST);
        answered(30, 0, town, "as", 9, FIRE);
    }

    private static void whenceItWas() {
        Town town = SmokeHomeFindings::town;
        String[] names = {"fits", "kinds"};
        for (int k = 0; k < 2; k++) {
            for (int fire : new int[] {0, 4, 5, -1, MAX, MIN}) {
                refused(21 + k, MISSING, town, names[k], 3, fire);
                refused(21 + k, BEYOND, town, names[k], 4, fire);
                refused(21 + k, BEYOND, town, names[k], -1, fire);
            }
            refused(21 + k, BEYOND, town, names[k], 0, 5);
            refused(21 + k, BEYOND, town, names[k], 0, -1);
        }
    }

    private static void sheets() {
        Town town = SmokeHomeFindings::town;
        for (int n : new int[] {-1, MIN, 0, 40, 41, MAX}) {
            for (int bits : new int[] {-1, 1, 7, 9, 15, 17, 24, 31, 33, 64, -8, -32, MIN, MAX}) {
                refused(31, BEYOND, town, "sheet", 0, bits, n);
                refused(31, BEYOND, town, "sheet", 4, bits, n);
            }
            for (int bits : new int[] {0, 8, 16, 32}) {
                refused(31, BEYOND, town, "sheet", 4, bits, n);
                refused(31, BEYOND, town, "sheet", -1, bits, n);
                if (n < 0) {
                    refused(31, SIZE, town, "sheet", 0, bits, n);
                    refused(31, SIZE, town, "sheet", 3, bits, n);
                } else if (n > 40) {
                    refused(31, BEYOND, town, "sheet", 0, bits, n);
                    refused(31, BEYOND, town, "sheet", 3, bits, n);
                } else {
                    answered(31, bits == 0 ? 0 : n, town, "sheet", 0, bits, n);
                    answered(31, bits == 0 ? 0 : n, town, "sheet", 3, bits, n);
                }
            }
        }
        for (int i : new int[] {-1, 0, 1, 40, MIN, MAX}) {
            refused(32, MISSING, town, "write", 3, i, 5);
            refused(32, BEYOND, town, "write", 4, i, 5);
            refused(32, BEYOND, town, "write", -1, i, 5);
        }
        Town empty = () -> {
            SmokeHome x = town();
            x.sheet(1, 16, 0);
            return x;
        };
        refused(32, BEYOND, empty, "write", 1, 0, 5);
        refused(32, BEYOND, empty, "write", 1, -1, 5);
        answered(34, 0, empty, "load", 1);
        answered(35, 0, empty, "judge", 1);
        for (String name : new String[] {"load", "judge"}) {
            refused(name.equals("load") ? 34 : 35, MISSING, town, name, 3);
            refused(name.equals("load") ? 34 : 35, BEYOND, town, name, 4);
            refused(name.equals("load") ? 34 : 35, BEYOND, town, name, -1);
        }
    }

    private static void copies() {
        Town town = SmokeHomeFindings::town;
        int[][] parts = {{0, 0, 1}, {-1, 0, 1}, {0, -1, 1}, {0, 0, -1}, {0, 0, 41}, {41, 0, 0}, {0, 41, 0}};
        for (int[] p : parts) {
            refused(33, BEYOND, town, "copy", 4, p[0], 3, p[1], p[2]);
            refused(33, BEYOND, town, "copy", -1, p[0], 3, p[1], p[2]);
            refused(33, BEYOND, town, "copy", 3, p[0], 4, p[1], p[2]);
            refused(33, BEYOND, town, "copy", 3, p[0], -1, p[1], p[2]);
            refused(33, BEYOND, town, "copy", 0, p[0], 4, p[1], p[2]);
            refused(33, BEYOND, town, "copy", 4, p[0], 0, p[1], p[2]);
            refused(33, MISSING, town, "copy", 3, p[0], 0, p[1], p[2]);
            refused(33, MISSING, town, "copy", 0, p[0], 3, p[1], p[2]);
            refused(33, MISSING, town, "copy", 3, p[0], 3, p[1], p[2]);
            refused(33, KIND, town, "copy", 0, p[0], 1, p[1], p[2]);
            refused(33, KIND, town, "copy", 1, p[0], 2, p[1], p[2]);
            refused(33, KIND, town, "copy", 2, p[0], 0, p[1], p[2]);
        }
        Town alike = () -> {
            SmokeHome x = town();
            fill(x, 1, 8, 6, 7);
            return x;
        };
        int[][] outside = {{-1, 0, 1}, {0, -1, 1}, {0, 0, -1}, {4, 0, 1}, {3, 0, 2}, {0, 2, 1}, {0, 1, 2}, {0, 0, 3},
            {5, 0, 0}, {0, 3, 0}, {MAX, 0, 1}, {0, MAX, 1}, {0, 0, MAX}, {1, 1, MAX}, {MAX, MAX, MAX}, {MIN, 0, 1},
            {0, MIN, 1}, {0, 0, MIN}, {MIN, MIN, MIN}};
        for (int[] p : outside) {
            refused(33, BEYOND, alike, "copy", 0, p[0], 1, p[1], p[2]);
        }
        int[][] inside = {{0, 0, 0}, {4, 2, 0}, {3, 0, 1}, {3, 1, 1}, {2, 0, 2}, {0, 0, 2}};
        for (int[] p : inside) {
            answered(33, p[2], alike, "copy", 0, p[0], 1, p[1], p[2]);
        }
        answered(33, 4, alike, "copy", 0, 0, 0, 0, 4);
        refused(33, BEYOND, alike, "copy", 0, 0, 0, 1, 4);
        refused(33, BEYOND, alike, "copy", 0, 1, 0, 0, 4);
        refused(33, BEYOND, alike, "copy", 0, 0, 0, 0, 5);
    }

    // ---- answers that are no findings

    /** With a FAULT nothing changes but that THE TAPE is empty, whatever stood before it. */
    private static void faults() {
        String before = "wood 5 123;wind 2;fire at 9;";
        Object[][] texts = {{before, 28}, {before + "bed at 25", 35}, {before + "jar;jar", 32}, {"", 0}, {"@", 0},
            {"wood 5 123;wind 5", 16}, {"wood 5 123 7", 11}, {"fire logs 1000", 10}};
        for (Object[] t : texts) {
            String text = (String) t[0];
            Town typed = () -> townTyped(text);
            answered(28, -1 - (Integer) t[1], typed, "text");
            SmokeHome x = typed.make();
            x.text();
            SmokeHome twin = sixLit();
            dueSame(28, "text() of '" + text + "'", x, twin);
        }
    }

    private static SmokeHome sixLit() {
        SmokeHome x = town();
        x.fire(BED, 11, 13);
        x.wipe();
        return x;
    }

    private static SmokeHome townTyped(String text) {
        SmokeHome x = sixLit();
        type(x, text);
        return x;
    }

    private static void noFindings() {
        Town town = SmokeHomeFindings::town;
        for (int z : new int[] {-1000001, -1000004, -1000007, MIN, MAX, 0, 1}) {
            Town seeded = () -> {
                SmokeHome x = town();
                x.seed(z);
                return x;
            };
            answered(25, z, seeded, "seed", -1000002);
            answered(39, z, seeded, "count", 6);
        }
        answered(27, 26, town, "wipe");
        answered(27, 0, SmokeHome::new, "wipe");
        answered(28, 3, town, "text");
        answered(36, 1, town, "image");
        answered(37, 5, town, "undo");
        answered(38, 1, town, "tear");
        answered(38, 0, SmokeHomeFindings::tornTown, "tear");
        answered(38, 0, SmokeHome::new, "tear");
    }

    /** What a call changed and changed back is all that it had changed. */
    private static void thereAndBack() {
        for (int v : new int[] {0, 1, 9998, 9999}) {
            for (int cell : new int[] {0, 1, 23, 24}) {
                back(2, x -> x.wood(cell, x.wood(cell, v)));
            }
        }
        for (int v = 0; v <= 4; v++) {
            int wind = v;
            back(4, x -> x.wind(x.wind(wind)));
        }
        int[] most = {6, 24, 24, 999, 24, 999, 9999};
        for (int what = 0; what < 7; what++) {
            int w = what;
            for (int v : new int[] {0, 1, most[what] - 1, most[what]}) {
                back(7, x -> x.change(0, w, x.change(0, w, v)));
                back(7, x -> x.change(4, w, x.change(4, w, v)));
            }
        }
        back(25, x -> x.seed(x.seed(MIN)));
        back(29, x -> x.hold(1, 4) + x.hold(1, -1));
        back(29, x -> x.hold(9, -1) + x.hold(9, 0));
        back(31, x -> x.sheet(3, 32, 40) + x.sheet(3, 0, 40));
        back(32, x -> x.write(0, 3, -1) + x.write(0, 3, 260));
        back(33, x -> x.copy(2, 0, 2, 0, 3));
        back(33, x -> x.copy(2, 3, 2, 0, 0));
    }

    private interface Change {
        int on(SmokeHome x);
    }

    private static void back(int promise, Change change) {
        SmokeHome x = town();
        change.on(x);
        due(promise, "findings behind a change and back", x.status(-1), town().status(-1));
        dueSame(promise, "a change and back", x, town());
    }
}
