/**
 * The document's bounds of cells, fires and hours, of what will be and of what is best: just inside each,
 * at it, and just beyond it. That a call beyond its arguments' bounds is refused is in SmokeHomeFindings.
 */
public final class SmokeHomeBoundsOfHours extends Checks {
    private static final int[] MOST = {6, 24, 24, 999, 24, 999, 9999};
    private static final int MAX = Integer.MAX_VALUE;
    private static final int MIN = Integer.MIN_VALUE;

    public static void main(String[] args) {
        rowsOfCells();
        noWayAroundTheEdge();
        woods();
        fires();
        valuesOfFires();
        allAtTheirMost();
        burnsWhatItHas();
        burnsAtItsChimney();
        smokeAtItsMost();
        anySmoke();
        waitedAtItsMost();
        burnsAndStepsByHours();
        jarsThatWaited();
        bears();
        stepsUntilHome();
        waitsOnce();
        quarters();
        comesToAny();
        whoCameCrosses();
        inOrderOfNumbers();
        crossedAtItsMost();
        atHome();
        lastHour();
        draws();
        hoursAhead();
        whenFirst();
        stuckInTime();
        crossesInTime();
        windInTime();
        windsOneByOne();
        homeInTime();
        buildInTime();
        kindInTime();
        logsInTime();
        quenchInTime();
        ofSeveralTheLeast();
        odds();
        images();
        fiveHundredAndTwelveCalls();
        finish();
    }

    private static SmokeHome with(int kind, int chimney, int home) {
        SmokeHome x = new SmokeHome();
        x.fire(kind, chimney, home);
        return x;
    }

    // ---- CELLS, and what they and the FIRES hold

    private static void rowsOfCells() {
        int[][] far = {{0, 24, 8}, {24, 0, 8}, {4, 20, 8}, {20, 4, 8}, {4, 5, 5}, {5, 4, 5}, {19, 20, 5},
            {0, 1, 1}, {0, 5, 1}, {24, 23, 1}, {24, 19, 1}, {0, 0, 0}, {24, 24, 0}};
        for (int[] f : far) {
            SmokeHome x = with(FIRE, f[0], f[1]);
            due(6, "of(0, 9) from " + f[0] + " to " + f[1], x.of(0, 9), f[2]);
        }
    }

    private static void noWayAroundTheEdge() {
        duePath(FIRE, 4, 5, 9, 8, 7, 6);
        duePath(POOR, 4, 5, 3, 2, 1, 0);
        duePath(FIRE, 5, 4, 0, 1, 2, 3);
        duePath(POOR, 5, 4, 6, 7, 8, 9);
        duePath(FIRE, 0, 24, 5, 10, 15, 20, 21, 22, 23);
        duePath(POOR, 0, 24, 1, 2, 3, 4, 9, 14, 19);
        duePath(FIRE, 24, 0, 19, 14, 9, 4, 3, 2, 1);
        duePath(POOR, 24, 0, 23, 22, 21, 20, 15, 10, 5);
        duePath(FIRE, 20, 4, 15, 10, 5, 0, 1, 2, 3);
        duePath(POOR, 4, 20, 3, 2, 1, 0, 5, 10, 15);
        duePath(FIRE, 19, 20, 24, 23, 22, 21);
        duePath(FIRE, 0, 4, 1, 2, 3);
        duePath(FIRE, 20, 0, 15, 10, 5);
    }

    private static void duePath(int kind, int chimney, int home, int... cells) {
        SmokeHome x = with(kind, chimney, home);
        for (int cell : cells) {
            due(8, "all WOOD on the way", x.go(1), 0);
            due(8, "kind " + kind + " from " + chimney + " to " + home, x.of(0, 4), cell);
        }
        int burnt = kind == POOR ? 3 : 2;
        due(8, "WOOD when it is home", x.go(1), burnt);
        due(8, "WOOD of CELL " + home, x.cell(home, 0), burnt);
        due(8, "AT its CHIMNEY again", x.of(0, 4), chimney);
    }

    private static void woods() {
        for (int cell : new int[] {0, 1, 23, 24}) {
            SmokeHome x = new SmokeHome();
            int was = 0;
            for (int v : new int[] {1, 0, 9998, 9999, 1}) {
                due(2, "wood(" + cell + ", " + v + ")", x.wood(cell, v), was);
                due(3, "cell(" + cell + ", 0)", x.cell(cell, 0), v);
                due(9, "now(1)", x.now(1), v);
                due(9, "now(5)", x.now(5), v > 0 ? 1 << cell : 0);
                was = v;
            }
        }
        int[][] grows = {{9996, 9998}, {9997, 9999}, {9998, 9999}, {9999, 9999}};
        for (int[] g : grows) {
            SmokeHome x = with(FIRE, 0, 1);
            x.wood(1, g[0]);
            due(11, "grown(1, 0) from " + g[0], x.grown(1, 0), g[0]);
            due(11, "grown(1, 1) from " + g[0], x.grown(1, 1), g[1]);
            due(11, "grown(1, 100) from " + g[0], x.grown(1, 100), 9999);
            due(12, "when(1, 9999) from " + g[0], x.when(1, 9999), g[0] == 9999 ? 0 : g[1] == 9999 ? 1 : 2);
            due(8, "go(1) from " + g[0], x.go(1), g[1]);
            dueRow(8, x, 0, FIRE, 0, 1, 48, 0, 0, 0);
        }
    }

    private static void fires() {
        SmokeHome x = new SmokeHome();
        for (int i = 0; i < 8; i++) {
            due(5, "fire " + i, x.fire(BED, 24, 0), i);
            due(39, "count(1)", x.count(1), i + 1);
            due(3, "cell(24, 1)", x.cell(24, 1), (2 << i) - 1);
            due(3, "cell(0, 3)", x.cell(0, 3), (2 << i) - 1);
            dueRow(5, x, i, BED, 24, 0, 50, 24, 0, 0);
        }
        due(5, "a 9th", x.fire(FIRE, 0, 0), FULL);
        due(39, "count(1)", x.count(1), 8);
        due(3, "cell(24, 2)", x.cell(24, 2), 0);
        for (int i = 0; i < 8; i++) {
            x.change(i, 5, 1);
            due(3, "cell(24, 2)", x.cell(24, 2), (2 << i) - 1);
            due(9, "now(6)", x.now(6), (2 << i) - 1);
        }
        x.change(7, 4, 23);
        due(3, "cell(23, 2)", x.cell(23, 2), 128);
        due(3, "cell(24, 2)", x.cell(24, 2), 127);
        x.change(0, 1, 1);
        x.change(0, 2, 23);
        for (int what = 1; what <= 3; what++) {
            due(3, "cell(12, " + what + "), where none is", x.cell(12, what), 0);
        }
        due(3, "cell(24, 1) without the first", x.cell(24, 1), 254);
        due(3, "cell(1, 1) of the first", x.cell(1, 1), 1);
        due(3, "cell(0, 3) without the first", x.cell(0, 3), 254);
        due(3, "cell(23, 3) of the first", x.cell(23, 3), 1);
    }

    private static void valuesOfFires() {
        for (int what = 0; what < 7; what++) {
            SmokeHome x = new SmokeHome();
            for (int i = 0; i < 8; i++) {
                x.fire(POOR, 7, 9);
            }
            int was = x.of(7, what);
            for (int v : new int[] {0, 1, MOST[what] - 1, MOST[what]}) {
                due(7, "change(7, " + what + ", " + v + ")", x.change(7, what, v), was);
                due(6, "of(7, " + what + ")", x.of(7, what), v);
                was = v;
            }
            due(7, "change(7, " + what + ", too much)", x.change(7, what, MOST[what] + 1), BEYOND);
            due(7, "change(7, " + what + ", -1)", x.change(7, what, -1), BEYOND);
            due(6, "of(7, " + what + ")", x.of(7, what), was);
            dueRow(7, x, 6, POOR, 7, 9, 50, 7, 0, 0);
        }
    }

    private static SmokeHome mostOfAll() {
        SmokeHome x = new SmokeHome();
        for (int i = 0; i < 8; i++) {
            x.fire(BED, 24, 24);
            for (int what = 0; what < 7; what++) {
                x.change(i, what, MOST[what]);
            }
        }
        for (int cell = 0; cell < 25; cell++) {
            x.wood(cell, 9999);
        }
        for (int spot = 0; spot < 10; spot++) {
            x.hold(spot, 7);
        }
        x.wind(4);
        return x;
    }

    private static void allAtTheirMost() {
        SmokeHome x = mostOfAll();
        int[] now = {0, 249975, 7992, 0, 7992, ALL_CELLS, 255};
        for (int what = 0; what < 7; what++) {
            due(9, "now(" + what + ") at most", x.now(what), now[what]);
        }
        due(39, "count(2) at most", x.count(2), 7992);
        due(39, "count(4) at most", x.count(4), 249975);
        due(39, "count(7) at most", x.count(7), 10);
        due(8, "go(1) at most", x.go(1), 249975);
        due(9, "now(2) when all came home", x.now(2), 0);
        due(9, "now(4) of which none burn", x.now(4), 7992);
    }

    // ---- an HOUR: (1)

    private static void burnsWhatItHas() {
        int[][] rows = {{FIRE, 0, 0, 0, 0}, {FIRE, 0, 1, 0, 1}, {FIRE, 0, 2, 0, 2}, {FIRE, 0, 3, 1, 2},
            {STOVE, 0, 4, 0, 4}, {STOVE, 0, 5, 0, 5}, {STOVE, 0, 6, 1, 5}, {PRIEST, 0, 0, 0, 0},
            {PRIEST, 0, 1, 0, 1}, {PRIEST, 0, 2, 1, 1}, {POOR, 0, 2, 0, 2}, {POOR, 0, 3, 0, 3},
            {POOR, 0, 4, 1, 3}, {POOR, 1, 0, 0, 0}, {POOR, 1, 1, 0, 1}, {POOR, 1, 2, 1, 1},
            {JAR, 0, 2, 0, 2}, {JAR, 0, 3, 0, 3}, {JAR, 0, 4, 1, 3}, {JAR, 1, 1, 0, 1}, {JAR, 1, 2, 1, 1},
            {FOREIGN, 0, 1, 0, 1}, {FOREIGN, 0, 2, 0, 2}, {FOREIGN, 0, 3, 1, 2}, {BED, 0, 0, 0, 0},
            {BED, 0, 9, 0, 9}, {BED, 0, 10, 0, 10}, {BED, 0, 11, 1, 10}, {BED, 0, 999, 989, 10}};
        for (int[] r : rows) {
            SmokeHome x = new SmokeHome();
            for (int hour = 0; hour < r[1]; hour++) {
                x.go(1);
            }
            x.fire(r[0], 0, 24);
            x.change(0, 3, r[2]);
            x.go(1);
            String call = "kind " + r[0] + " in HOUR " + r[1] + " with LOGS " + r[2];
            due(8, call + ": LOGS", x.of(0, 3), r[3]);
            due(8, call + ": MUCH", x.of(0, 5), r[4]);
        }
    }

    private static void burnsAtItsChimney() {
        SmokeHome x = with(FIRE, 7, 7);
        x.go(3);
        due(8, "LOGS of one whose CHIMNEY is its HOME", x.of(0, 3), 50);
        x.change(0, 4, 8);
        x.go(3);
        due(8, "LOGS of it, its SMOKE beside it", x.of(0, 3), 50);
        x.change(0, 4, 7);
        x.change(0, 2, 9);
        x.go(1);
        due(8, "LOGS of one whose HOME is elsewhere", x.of(0, 3), 48);
        x.go(1);
        due(8, "LOGS of it, its SMOKE beside it", x.of(0, 3), 48);
        due(8, "it is AT its CHIMNEY again", x.of(0, 4), 7);
        x.change(0, 4, 6);
        x.change(0, 5, 0);
        x.go(4);
        due(8, "LOGS of it, nothing beside it", x.of(0, 3), 48);
        x.change(0, 4, 9);
        x.go(1);
        due(8, "LOGS of it, AT HOME", x.of(0, 3), 48);
        x.go(1);
        due(8, "LOGS of it, AT its CHIMNEY since", x.of(0, 3), 46);
    }

    private static void smokeAtItsMost() {
        int[][] rows = {{FIRE, 996, 998, 48}, {FIRE, 997, 999, 48}, {FIRE, 998, 999, 48}, {FIRE, 999, 999, 48},
            {BED, 988, 998, 40}, {BED, 989, 999, 40}, {BED, 990, 999, 40}, {BED, 999, 999, 40}};
        for (int[] r : rows) {
            SmokeHome x = with(r[0], 0, 20);
            x.wind(1);
            x.change(0, 5, r[1]);
            due(10, "ahead(0, 5, 1) from " + r[1], x.ahead(0, 5, 1), r[2]);
            x.go(1);
            dueRow(8, x, 0, r[0], 0, 20, r[3], 0, r[2], 1);
        }
    }

    // ---- an HOUR: (2)

    private static void anySmoke() {
        for (int much = 0; much < 2; much++) {
            SmokeHome x = with(FIRE, 0, 24);
            x.change(0, 4, 7);
            x.change(0, 5, much);
            due(3, "cell(7, 2) of " + much, x.cell(7, 2), much);
            due(9, "now(6) of " + much, x.now(6), much);
            x.wind(1);
            x.go(1);
            dueRow(8, x, 0, FIRE, 0, 24, 50, 7, much, much);
            x.wind(0);
            x.go(1);
            dueRow(8, x, 0, FIRE, 0, 24, 50, much == 0 ? 7 : 12, much, much);
        }
    }

    private static void waitedAtItsMost() {
        int[][] rows = {{0, 1}, {9997, 9998}, {9998, 9999}, {9999, 9999}};
        for (int[] r : rows) {
            SmokeHome x = with(FIRE, 0, 20);
            x.wind(1);
            x.change(0, 6, r[0]);
            due(13, "stuck(0) from " + r[0], x.stuck(0), r[0] == 9999 ? NONE : 1);
            due(10, "ahead(0, 6, 1) from " + r[0], x.ahead(0, 6, 1), r[1]);
            due(10, "ahead(0, 6, 100) from " + r[0], x.ahead(0, 6, 100), Math.min(r[0] + 100, 9999));
            x.go(1);
            due(8, "WAITED from " + r[0], x.of(0, 6), r[1]);
        }
    }

    private static void burnsAndStepsByHours() {
        SmokeHome x = new SmokeHome();
        for (int kind = 0; kind < 7; kind++) {
            x.fire(kind, 6, 6);
        }
        int[][] rows = {{0, 1, 3, 1}, {1, 1, 1, 0}, {2, 1, 3, 0}, {3, 1, 1, 1}, {4, 1, 3, 0}, {5, 1, 1, 0},
            {6, 1, 3, 1}, {59, 1, 1, 0}, {60, 1, 3, 1}, {61, 1, 1, 0}, {62, 1, 3, 0}, {63, 1, 1, 1}};
        for (int[] r : rows) {
            if (r[0] > x.now(0)) {
                x.go(r[0] - x.now(0));
            }
            int[] burns = {2, 5, 1, r[2], r[2], 2, 10};
            int[] steps = {1, 2, r[3], 1, 1, 1, 3};
            for (int kind = 0; kind < 7; kind++) {
                due(6, "of(" + kind + ", 7) in HOUR " + r[0], x.of(kind, 7), burns[kind]);
                due(6, "of(" + kind + ", 8) in HOUR " + r[0], x.of(kind, 8), steps[kind]);
            }
        }
    }

    private static void jarsThatWaited() {
        int[][] rows = {{0, 1}, {4, 1}, {5, 3}, {6, 3}, {9999, 3}};
        for (int[] r : rows) {
            for (int kind = 0; kind < 7; kind++) {
                SmokeHome x = with(kind, 0, 3);
                x.change(0, 6, r[0]);
                int steps = new int[] {1, 2, 1, 1, r[1], 1, 3}[kind];
                due(6, "of(0, 8) of kind " + kind + " that waited " + r[0], x.of(0, 8), steps);
                x.go(1);
                due(8, "AT, of kind " + kind + " that waited " + r[0], x.of(0, 4), steps % 3);
                due(8, "WAITED, of kind " + kind, x.of(0, 6), r[0]);
            }
        }
    }

    private static void bears() {
        int[][] rows = {{17, 20, 19}, {18, 20, 20}, {19, 21, 21}, {20, 21, 22}, {999, 21, 999}};
        for (int[] r : rows) {
            SmokeHome x = with(FOREIGN, 20, 24);
            x.wind(4);
            x.change(0, 5, r[0]);
            x.go(1);
            dueRow(8, x, 0, FOREIGN, 20, 24, 48, r[1], r[2], r[1] == 20 ? 1 : 0);
        }
        for (int kind = 0; kind < 7; kind++) {
            for (int much : new int[] {1, 20, 21, 999}) {
                SmokeHome x = with(kind, 0, 24);
                x.wind(4);
                x.change(0, 4, 20);
                x.change(0, 5, much);
                x.go(1);
                boolean goes = kind == JAR || (kind == FOREIGN && much > 20);
                dueRow(8, x, 0, kind, 0, 24, 50, goes ? 21 : 20, much, goes ? 0 : 1);
            }
        }
    }

    private static void stepsUntilHome() {
        int[] most = {1, 2, 1, 1, 3, 1, 3};
        int[] burnt = {2, 5, 1, 3, 3, 2, 10};
        for (int kind = 0; kind < 7; kind++) {
            for (int far = 1; far <= 4; far++) {
                SmokeHome x = with(kind, 0, 5 * far);
                x.change(0, 6, kind == JAR ? 5 : 0);
                boolean home = far <= most[kind];
                String call = "kind " + kind + " to " + 5 * far;
                due(8, call + ": WOOD", x.go(1), home ? burnt[kind] : 0);
                due(8, call + ": WOOD there", x.cell(5 * far, 0), home ? burnt[kind] : 0);
                due(8, call + ": AT", x.of(0, 4), home ? 0 : 5 * most[kind]);
                due(8, call + ": MUCH", x.of(0, 5), home ? 0 : burnt[kind]);
            }
        }
    }

    /** Whose STEP is against the WIND makes none more, and waits one HOUR, not one for each STEP. */
    private static void waitsOnce() {
        int[][] rows = {{STOVE, 0, 1, 0}, {STOVE, 0, 6, 5}, {STOVE, 0, 12, 10}, {BED, 0, 1, 0}, {BED, 0, 6, 5},
            {BED, 0, 12, 10}};
        for (int[] r : rows) {
            SmokeHome x = with(r[0], r[1], r[2]);
            x.wind(4);
            x.go(1);
            due(8, "AT, of kind " + r[0] + " to " + r[2], x.of(0, 4), r[3]);
            int waited = r[0] == STOVE && r[2] == 12 ? 0 : 1;
            due(8, "WAITED, of kind " + r[0] + " to " + r[2], x.of(0, 6), waited);
            x.go(1);
            due(8, "AT, later", x.of(0, 4), r[3]);
            due(8, "WAITED, later", x.of(0, 6), waited + 1);
        }
    }

    // ---- an HOUR: (3)

    /** Smoke AT a CELL, on its way to a HOME, from a CHIMNEY where it isn't. */
    private static int smoke(SmokeHome x, int kind, int at, int home, int much) {
        int fire = x.fire(kind, 20, home);
        x.change(fire, 4, at);
        x.change(fire, 5, much);
        return fire;
    }

    /** In HOUR 1 a PRIEST's stands. */
    private static SmokeHome inHourOne() {
        SmokeHome x = new SmokeHome();
        x.go(1);
        return x;
    }

    private static void quarters() {
        int[][] rows = {{1, 1, 1, 1}, {3, 3, 3, 3}, {4, 3, 3, 4}, {3, 4, 4, 3}, {4, 4, 4, 4}, {7, 8, 8, 7},
            {5, 11, 6, 10}, {12, 0, 12, 0}, {0, 12, 0, 12}, {12, 1, 9, 4}, {1, 12, 4, 9}, {999, 1, 750, 250},
            {999, 3, 750, 252}, {999, 4, 751, 252}, {996, 999, 996, 999}, {999, 999, 999, 999}};
        for (int[] r : rows) {
            SmokeHome x = inHourOne();
            smoke(x, FIRE, 11, 14, r[0]);
            smoke(x, PRIEST, 12, 2, r[1]);
            x.go(1);
            String call = " of " + r[0] + " and " + r[1];
            due(8, "CROSSED" + call, x.now(3), r[0] == 0 || r[1] == 0 ? 0 : 1);
            due(8, "MUCH of the one" + call, x.of(0, 5), r[2]);
            due(8, "MUCH of the other" + call, x.of(1, 5), r[3]);
        }
    }

    /** One comes to where the other one's smoke stands, if there is any of it. */
    private static void comesToAny() {
        for (int much = 0; much < 2; much++) {
            SmokeHome x = inHourOne();
            smoke(x, PRIEST, 12, 2, much);
            smoke(x, FIRE, 11, 14, 4);
            smoke(x, PRIEST, 13, 2, 1);
            x.go(1);
            due(8, "CROSSED of " + much + " with what came", x.now(3), much);
            due(8, "MUCH of " + much + " with what came", x.of(0, 5), 2 * much);
            due(8, "MUCH of what came to " + much, x.of(1, 5), 4 - much);
            x.change(0, 4, 13);
            x.go(1);
            due(8, "CROSSED of " + much + " and one more, with what came", x.now(3), 2 * much + 1);
        }
    }

    private static void whoCameCrosses() {
        dueCrossed(0, "each into the other's CELL", FIRE, 11, 14, FIRE, 12, 10);
        dueCrossed(1, "both into one CELL", FIRE, 11, 14, FIRE, 13, 10);
        dueCrossed(1, "both from one CELL into one", FIRE, 11, 14, FIRE, 11, 13);
        dueCrossed(0, "both from one CELL, apart", FIRE, 12, 14, FIRE, 12, 10);
        dueCrossed(0, "one away from the other", FIRE, 12, 14, PRIEST, 12, 10);
        dueCrossed(0, "the other away from one", PRIEST, 12, 14, FIRE, 12, 10);
        dueCrossed(1, "one to the other", FIRE, 11, 14, PRIEST, 12, 10);
        dueCrossed(1, "the other to one", PRIEST, 12, 14, FIRE, 11, 13);
        dueCrossed(0, "one through the other's CELL", STOVE, 11, 14, PRIEST, 12, 10);
        dueCrossed(1, "one to the other, AT HOME", FIRE, 11, 12, PRIEST, 12, 10);
        dueCrossed(1, "one to the other, whose HOME it is", FIRE, 11, 14, FIRE, 12, 12);
        dueCrossed(0, "both where they were", PRIEST, 12, 14, PRIEST, 12, 10);
        dueCrossed(0, "beside one another", PRIEST, 12, 14, PRIEST, 13, 10);
        SmokeHome x = inHourOne();
        smoke(x, FIRE, 11, 12, 8);
        smoke(x, PRIEST, 12, 10, 4);
        due(8, "WOOD of what crossed AT HOME", x.go(1), 7);
        due(8, "MUCH of the other", x.of(1, 5), 5);
        SmokeHome y = inHourOne();
        smoke(y, FIRE, 11, 14, 4);
        smoke(y, FIRE, 12, 12, 8);
        due(8, "WOOD of what was AT HOME", y.go(1), 7);
        due(8, "MUCH of what came", y.of(0, 5), 5);
    }

    private static void dueCrossed(int times, String how, int kindA, int atA, int homeA, int kindB, int atB, int homeB) {
        SmokeHome x = inHourOne();
        smoke(x, kindA, atA, homeA, 1);
        smoke(x, kindB, atB, homeB, 1);
        due(14, "crosses(): " + how, x.crosses() == 1 ? 1 : 0, times);
        x.go(1);
        due(8, "CROSSED: " + how, x.now(3), times);
    }

    private static void inOrderOfNumbers() {
        SmokeHome x = inHourOne();
        smoke(x, FIRE, 11, 14, 40);
        smoke(x, FIRE, 13, 10, 8);
        smoke(x, PRIEST, 12, 2, 4);
        x.go(1);
        due(8, "CROSSED of three", x.now(3), 3);
        int[] all = {25, 14, 13};
        SmokeHome y = inHourOne();
        smoke(y, FIRE, 11, 14, 40);
        smoke(y, PRIEST, 12, 2, 8);
        smoke(y, PRIEST, 12, 2, 4);
        y.go(1);
        due(8, "CROSSED of three, two of which stood", y.now(3), 2);
        int[] two = {25, 16, 11};
        for (int fire = 0; fire < 3; fire++) {
            due(8, "MUCH of " + fire, x.of(fire, 5), all[fire]);
            due(8, "MUCH of " + fire + ", two stood", y.of(fire, 5), two[fire]);
        }
    }

    /** Eight FIRES' smoke crosses in all 28 pairs in each HOUR: 99988 behind 3571 HOURS. */
    private static void crossedAtItsMost() {
        SmokeHome x = new SmokeHome();
        for (int i = 0; i < 8; i++) {
            x.fire(FIRE, 0, 1);
        }
        fill(x, 0, 16, 999, 999, 999, 999, 999, 999, 999, 999);
        for (int i = 0; i < 60; i++) {
            if (i % 8 == 0) {
                x.load(0);
            }
            x.go(i < 59 ? 60 : 31);
        }
        due(8, "CROSSED behind 3571 HOURS", x.now(3), 99988);
        for (int i = 5; i < 8; i++) {
            x.change(i, 3, 0);
        }
        x.go(1);
        due(8, "CROSSED, ten more", x.now(3), 99998);
        due(39, "count(3), ten more", x.count(3), 99998);
        due(14, "crosses() at 99998", x.crosses(), 1);
        due(20, "quench(1) at 99998", x.quench(1), 15);
        x.image();
        x.change(3, 3, 0);
        x.change(4, 3, 0);
        x.go(1);
        due(8, "CROSSED, at most, of three more", x.now(3), 99999);
        due(37, "undo()", x.undo(), 3572);
        x.change(2, 3, 0);
        x.change(3, 3, 0);
        x.change(4, 3, 0);
        x.go(1);
        due(8, "CROSSED, of one more", x.now(3), 99999);
        due(14, "crosses() at 99999", x.crosses(), NONE);
        due(20, "quench(20) at 99999", x.quench(20), 0);
        x.change(0, 2, 2);
        x.change(1, 2, 2);
        x.change(0, 5, 38);
        x.change(1, 5, 6);
        x.go(1);
        due(8, "CROSSED, at most", x.now(3), 99999);
        due(39, "count(3), at most", x.count(3), 99999);
        due(8, "MUCH of one that crossed then", x.of(0, 5), 32);
        due(8, "MUCH of the other", x.of(1, 5), 16);
    }

    // ---- an HOUR: (4), and HOURS

    private static void atHome() {
        SmokeHome x = with(FIRE, 3, 9);
        x.change(0, 4, 9);
        x.change(0, 5, 999);
        x.wood(9, 9000);
        due(8, "WOOD of 999 more", x.go(1), 9999);
        dueRow(8, x, 0, FIRE, 3, 9, 50, 3, 0, 0);
        x.change(0, 4, 9);
        x.change(0, 5, 1);
        x.wood(9, 0);
        due(8, "WOOD of one more", x.go(1), 1);
        dueRow(8, x, 0, FIRE, 3, 9, 50, 3, 0, 0);
        x.change(0, 4, 9);
        due(8, "WOOD of none more", x.go(1), 1);
        dueRow(8, x, 0, FIRE, 3, 9, 50, 3, 0, 0);
    }

    /** With more calls than the document binds: no shorter way leads to the last HOUR. */
    private static SmokeHome inHour(int hour) {
        SmokeHome x = new SmokeHome();
        for (int i = 0; i < hour / 60; i++) {
            x.go(60);
        }
        x.go(hour % 60);
        due(9, "now(0) on the way to the last HOUR", x.now(0), hour);
        return x;
    }

    private static void lastHour() {
        int[][] rows = {{99938, 60, 99998}, {99939, 60, 99999}, {99940, 60, STATE}, {99940, 59, 99999},
            {99997, 1, 99998}, {99998, 1, 99999}, {99998, 2, STATE}, {99999, 1, STATE}};
        for (int[] r : rows) {
            SmokeHome x = inHour(r[0]);
            due(8, "go(" + r[1] + ") in HOUR " + r[0], x.go(r[1]), r[2] == STATE ? STATE : 0);
            due(9, "now(0) behind " + r[0], x.now(0), r[2] == STATE ? r[0] : r[2]);
        }
        int[][] drawn = {{99978, 20, 99998}, {99979, 20, 99999}, {99980, 20, STATE}, {99998, 1, 99999},
            {99999, 1, STATE}};
        for (int[] r : drawn) {
            SmokeHome x = inHour(r[0]);
            due(23, "winds(" + r[1] + ") in HOUR " + r[0], x.winds(r[1]), r[2] == STATE ? STATE : 0);
            due(39, "count(0) behind " + r[0], x.count(0), r[2] == STATE ? r[0] : r[2]);
        }
        // What will be isn't bound by the last HOUR, but the HOUR is: 99999 again, odd and a multiple of 3.
        SmokeHome x = inHour(99999);
        x.fire(PRIEST, 0, 4);
        for (int n = 1; n <= 3; n++) {
            due(10, "ahead(0, 4, " + n + ") in the last HOUR", x.ahead(0, 4, n), n);
        }
        due(11, "grown(4, 4) in the last HOUR", x.grown(4, 4), 1);
        due(12, "when(4, 1) in the last HOUR", x.when(4, 1), 4);
        x.wind(4);
        x.change(0, 0, POOR);
        for (int n : new int[] {1, 2, 3, 50}) {
            due(10, "ahead(0, 3, " + n + ") in the last HOUR", x.ahead(0, 3, n), 50 - n);
        }
        due(10, "ahead(0, 6, 100) in the last HOUR", x.ahead(0, 6, 100), 100);
        due(13, "stuck(0) in the last HOUR", x.stuck(0), 1);
        due(9, "now(0) still", x.now(0), 99999);
    }

    // ---- DRAWS

    private static void draws() {
        int[][] rows = {{0, 12345, 3}, {1, 1103527590, 4}, {-1, -1103502900, 2}, {MAX, 1043980748, 4},
            {MIN, -2147471303, 1}};
        for (int[] r : rows) {
            SmokeHome x = new SmokeHome();
            due(25, "seed(" + r[0] + ")", x.seed(r[0]), 1);
            due(23, "winds(1) from " + r[0], x.winds(1), 0);
            due(39, "count(6) from " + r[0], x.count(6), r[1]);
            due(25, "seed(0) from " + r[0], x.seed(0), r[1]);
            due(4, "wind(0) from " + r[0], x.wind(0), r[2]);
        }
        for (int n : new int[] {1, 2, 19, 20}) {
            SmokeHome x = with(FIRE, 12, 18);
            SmokeHome y = with(FIRE, 12, 18);
            int grew = 0;
            for (int i = 0; i < n; i++) {
                grew = y.winds(1);
            }
            due(23, "winds(" + n + ")", x.winds(n), grew);
            due(23, "HOUR behind winds(" + n + ")", x.now(0), n);
            due(23, "z behind winds(" + n + ")", x.count(6), y.count(6));
            due(23, "WIND behind winds(" + n + ")", x.wind(0), y.wind(0));
            due(23, "WAITED behind winds(" + n + ")", x.of(0, 6), y.of(0, 6));
        }
    }

    // ---- what will be

    private static void hoursAhead() {
        SmokeHome x = with(FIRE, 0, 3);
        x.change(0, 3, 999);
        int[][] rows = {{0, 999, 0, 0, 0}, {1, 997, 1, 2, 0}, {2, 997, 2, 2, 0}, {3, 997, 0, 0, 2}, {4, 995, 1, 2, 2},
            {99, 933, 0, 0, 66}, {100, 931, 1, 2, 66}};
        for (int[] r : rows) {
            for (int what = 3; what <= 5; what++) {
                due(10, "ahead(0, " + what + ", " + r[0] + ")", x.ahead(0, what, r[0]), r[what - 2]);
            }
            due(10, "ahead(0, 6, " + r[0] + ")", x.ahead(0, 6, r[0]), 0);
            due(11, "grown(3, " + r[0] + ")", x.grown(3, r[0]), r[4]);
        }
        x.wind(4);
        for (int n : new int[] {0, 1, 99, 100}) {
            due(10, "ahead(0, 6, " + n + ") against the WIND", x.ahead(0, 6, n), n);
            due(10, "ahead(0, 5, " + n + ") against the WIND", x.ahead(0, 5, n), 2 * n);
            due(10, "ahead(0, 3, " + n + ") against the WIND", x.ahead(0, 3, n), 999 - 2 * n);
            due(11, "grown(3, " + n + ") against the WIND", x.grown(3, n), 0);
        }
    }

    private static void whenFirst() {
        SmokeHome x = with(FIRE, 0, 1);
        x.change(0, 3, 999);
        int[][] rows = {{0, 0}, {1, 1}, {2, 1}, {3, 2}, {196, 98}, {197, 99}, {198, 99}, {199, 100}, {200, 100},
            {201, NONE}, {9999, NONE}, {10000, BEYOND}};
        for (int[] r : rows) {
            due(12, "when(1, " + r[0] + ")", x.when(1, r[0]), r[1]);
        }
        x.wood(1, 7);
        due(12, "when(1, 6)", x.when(1, 6), 0);
        due(12, "when(1, 7)", x.when(1, 7), 0);
        due(12, "when(1, 8)", x.when(1, 8), 1);
        due(12, "when(1, 207)", x.when(1, 207), 100);
        due(12, "when(1, 208)", x.when(1, 208), NONE);
    }

    /**
     * The foreign one's smoke waits for nothing while the bed's, which waits at 5, gives it enough each time
     * it comes by: how long goes by the bed's LOGS. These were found by a search; go() tells whether they are so.
     */
    private static SmokeHome fedByABed(int logs, int at) {
        SmokeHome x = new SmokeHome();
        x.wind(4);
        x.fire(FOREIGN, 0, 6);
        x.change(0, 3, 999);
        x.change(0, 4, at);
        x.change(0, 5, 50);
        x.fire(BED, 5, 6);
        x.change(1, 3, logs);
        x.change(1, 5, 100);
        return x;
    }

    private static void stuckInTime() {
        SmokeHome x = fedByABed(973, 5);
        x.image();
        x.go(60);
        x.go(40);
        due(13, "WAITED behind 100 HOURS", x.of(0, 6), 0);
        x.go(1);
        due(13, "WAITED behind 101 HOURS", x.of(0, 6), 1);
        x.undo();
        due(13, "stuck(0), 101 HOURS before", x.stuck(0), NONE);
        x.go(1);
        due(13, "stuck(0), 100 HOURS before", x.stuck(0), 100);
        x.go(1);
        due(13, "stuck(0), 99 HOURS before", x.stuck(0), 99);
        x.go(60);
        x.go(38);
        due(13, "stuck(0), one HOUR before", x.stuck(0), 1);
        x.go(1);
        due(13, "stuck(0), since it waits", x.stuck(0), 1);
    }

    /**
     * Both gather until there is more than 20, then go against the WIND: one is home at once and gathers anew,
     * in 11 HOURS; the other one is home behind four, in 14 HOURS. They meet only where the first one's HOME is.
     */
    private static SmokeHome twoThatGather(int much, int otherMuch) {
        SmokeHome x = new SmokeHome();
        x.wind(1);
        x.fire(FOREIGN, 19, 24);
        x.fire(FOREIGN, 19, 21);
        x.change(0, 3, 999);
        x.change(1, 3, 999);
        x.change(0, 5, much);
        x.change(1, 5, otherMuch);
        return x;
    }

    private static void crossesInTime() {
        // They go in HOURS 2 + 11 i and 3 + 14 j.
        SmokeHome x = twoThatGather(18, 16);
        due(14, "crosses(), 101 HOURS before", x.crosses(), NONE);
        x.go(1);
        due(14, "crosses(), 100 HOURS before", x.crosses(), 100);
        x.go(1);
        due(14, "crosses(), 99 HOURS before", x.crosses(), 99);
        x.go(60);
        x.go(38);
        due(14, "CROSSED before", x.now(3), 0);
        due(14, "crosses(), one HOUR before", x.crosses(), 1);
        x.go(1);
        due(14, "CROSSED then", x.now(3), 1);
    }

    // ---- what is best

    private interface Trial {
        void with(SmokeHome x, int v);
    }

    private interface Told {
        int by(SmokeHome x);
    }

    /** What is best when each is tried with calls that change the town; it is left as it was. */
    private static int best(SmokeHome x, int choices, int n, Trial trial, Told told) {
        int best = -1;
        int most = MIN;
        x.image();
        for (int v = 0; v < choices; v++) {
            trial.with(x, v);
            if (n > 0) {
                x.go(n);
            }
            int got = told.by(x);
            if (got > most) {
                most = got;
                best = v;
            }
            x.undo();
        }
        return best;
    }

    private static void windInTime() {
        SmokeHome x = new SmokeHome();
        x.fire(FOREIGN, 6, 15);
        x.fire(JAR, 15, 1);
        x.fire(PRIEST, 5, 23);
        x.change(2, 5, 13);
        x.wind(4);
        int[][] rows = {{0, 0}, {1, 0}, {39, 0}, {40, 1}, {41, BEYOND}};
        for (int[] r : rows) {
            due(15, "windFor(" + r[0] + ")", x.windFor(r[0]), r[1]);
            if (r[1] != BEYOND) {
                due(15, "the WIND by trying", best(x, 5, r[0], (y, v) -> y.wind(v), y -> y.now(1)), r[1]);
            }
        }
    }

    /** What is held at 16 goes home with another one's smoke, and not to a wood that can't grow. */
    private static void windsOneByOne() {
        int[][] rows = {{11, 15, 2}, {11, 17, 4}, {15, 21, 1}, {15, 11, 3}};
        for (int[] r : rows) {
            SmokeHome x = new SmokeHome();
            x.fire(FIRE, r[0], 16);
            x.fire(FIRE, 16, r[1]);
            x.wood(r[1], 9999);
            due(15, "windFor(3) of one held from " + r[1], x.windFor(3), r[2]);
            due(15, "the WIND by trying", best(x, 5, 3, (y, v) -> y.wind(v), y -> y.now(1)), r[2]);
        }
    }

    private static void homeInTime() {
        SmokeHome x = new SmokeHome();
        x.fire(POOR, 1, 7);
        x.fire(POOR, 4, 21);
        x.wind(4);
        int[][] rows = {{0, 0}, {39, 2}, {40, 21}, {41, BEYOND}};
        for (int[] r : rows) {
            due(16, "homeFor(0, 21, " + r[0] + ")", x.homeFor(0, 21, r[0]), r[1]);
        }
        for (int n = 39; n <= 40; n++) {
            int home = best(x, 25, n, (y, v) -> y.change(0, 2, v), y -> y.cell(21, 0));
            due(16, "the HOME by trying", home, n == 39 ? 2 : 21);
        }
        SmokeHome far = with(FIRE, 0, 0);
        due(16, "homeFor(0, 24, 7)", far.homeFor(0, 24, 7), 0);
        due(16, "homeFor(0, 24, 8)", far.homeFor(0, 24, 8), 24);
        SmokeHome back = with(FIRE, 24, 24);
        due(16, "homeFor(0, 0, 8)", back.homeFor(0, 0, 8), 0);
        due(16, "homeFor(0, 1, 6)", back.homeFor(0, 1, 6), 0);
        due(16, "homeFor(0, 1, 7)", back.homeFor(0, 1, 7), 1);
    }

    private static void rebuild(SmokeHome x, int chimney) {
        x.change(0, 1, chimney);
        x.change(0, 4, chimney);
    }

    private static void buildInTime() {
        SmokeHome x = fedByABed(375, 0);
        int[][] rows = {{0, 0}, {39, 0}, {40, 1}, {41, BEYOND}};
        for (int[] r : rows) {
            due(17, "build(0, " + r[0] + ")", x.build(0, r[0]), r[1]);
            if (r[1] != BEYOND) {
                int cell = best(x, 25, r[0], SmokeHomeBoundsOfHours::rebuild, y -> -y.of(0, 6));
                due(17, "the CHIMNEY by trying", cell, r[1]);
            }
        }
        SmokeHome last = with(FIRE, 0, 24);
        last.wind(1);
        due(17, "build(0, 1), only the last row waits for nothing", last.build(0, 1), 20);
        last.wind(3);
        due(17, "build(0, 1), all is downwind", last.build(0, 1), 0);
        last.wind(4);
        due(17, "build(0, 4), from the first row it is four HOURS to the last", last.build(0, 4), 0);
        due(17, "build(0, 5)", last.build(0, 5), 4);
    }

    private static void kindInTime() {
        // FIRE burns 80 LOGS in 40 HOURS, 78 in 39; POOR 80, and 79; STOVE all, and is the least of those.
        int[][] rows = {{79, 39, STOVE}, {79, 40, FIRE}, {80, 39, STOVE}, {80, 40, FIRE}, {81, 40, STOVE}, {78, 39, FIRE},
            {50, 0, FIRE}, {2, 1, FIRE}, {3, 1, STOVE}, {5, 1, STOVE}, {6, 1, BED}, {80, 41, BEYOND}};
        for (int[] r : rows) {
            SmokeHome x = with(FIRE, 0, 1);
            x.change(0, 3, r[0]);
            due(18, "kindFor(0, " + r[1] + ") with LOGS " + r[0], x.kindFor(0, r[1]), r[2]);
        }
        SmokeHome bed = with(BED, 0, 15);
        due(18, "kindFor(0, 1), three STEPS", bed.kindFor(0, 1), BED);
        bed.change(0, 2, 20);
        due(18, "kindFor(0, 1), four STEPS", bed.kindFor(0, 1), FIRE);
    }

    private static void logsInTime() {
        SmokeHome x = with(FIRE, 0, 1);
        int[][] rows = {{0, 0, 0}, {1, 0, NONE}, {1, 1, 1}, {2, 1, 2}, {3, 1, NONE}, {77, 39, 77}, {78, 39, 78},
            {79, 39, NONE}, {79, 40, 79}, {80, 40, 80}, {81, 40, NONE}, {80, 41, BEYOND}};
        for (int[] r : rows) {
            String call = "logsFor(0, 1, " + r[0] + ", " + r[1] + ")";
            due(19, call, x.logsFor(0, 1, r[0], r[1]), r[2]);
        }
        SmokeHome bed = with(BED, 0, 1);
        bed.change(0, 3, 999);
        int[][] many = {{199, 40, 199}, {200, 40, 200}, {201, 40, NONE}, {9999, 40, NONE}, {10000, 40, BEYOND},
            {200, 20, 200}, {200, 19, NONE}, {190, 19, 190}, {191, 19, NONE}};
        for (int[] r : many) {
            String call = "logsFor(0, 1, " + r[0] + ", " + r[1] + ") of a BED";
            due(19, call, bed.logsFor(0, 1, r[0], r[1]), r[2]);
        }
        bed.wood(1, 7);
        due(19, "logsFor(0, 1, 7, 0) of what there is", bed.logsFor(0, 1, 7, 0), 0);
        due(19, "logsFor(0, 1, 6, 40) of more than that", bed.logsFor(0, 1, 6, 40), 0);
        due(19, "logsFor(0, 1, 8, 0) of one more", bed.logsFor(0, 1, 8, 0), NONE);
        due(19, "logsFor(0, 1, 8, 1) of one more", bed.logsFor(0, 1, 8, 1), 1);
        bed.wood(1, 9999);
        due(19, "logsFor(0, 1, 9999, 40) of all there can be", bed.logsFor(0, 1, 9999, 40), 0);
        bed.wood(1, 9998);
        due(19, "logsFor(0, 1, 9999, 40) of one less", bed.logsFor(0, 1, 9999, 40), 1);
    }

    private static void quenchInTime() {
        // They go in HOURS 9 + 11 i and 6 + 14 j: 20 is the first of both.
        SmokeHome x = twoThatGather(4, 10);
        due(14, "crosses() of two", x.crosses(), 20);
        int[][] rows = {{0, 0}, {1, 0}, {19, 0}, {20, 1}, {21, BEYOND}};
        for (int[] r : rows) {
            due(20, "quench(" + r[0] + ")", x.quench(r[0]), r[1]);
        }
        SmokeHome later = twoThatGather(2, 8);
        due(14, "crosses() of two, later", later.crosses(), 21);
        due(20, "quench(20), later", later.quench(20), 0);
        for (int much = 0; much < 2; much++) {
            SmokeHome smoke = inHourOne();
            smoke(smoke, PRIEST, 12, 2, much);
            smoke(smoke, FIRE, 11, 14, 1);
            due(20, "quench(1) of " + much + " and no LOGS that burn", smoke.quench(1), much);
            due(20, "MUCH of it, still", smoke.of(0, 5), much);
        }
        SmokeHome y = new SmokeHome();
        for (int i = 0; i < 8; i++) {
            due(20, "quench(20) of " + i, y.quench(20), i == 0 ? 0 : (1 << (i - 1)) - 1);
            y.fire(FIRE, 0, 1);
        }
        due(20, "quench(20) of 8", y.quench(20), 127);
        due(20, "quench(0) of 8", y.quench(0), 0);
    }

    private static void ofSeveralTheLeast() {
        SmokeHome none = new SmokeHome();
        due(15, "windFor(40) of none", none.windFor(40), 0);
        due(20, "quench(20) of none", none.quench(20), 0);
        SmokeHome x = with(BED, 24, 24);
        x.wind(4);
        due(15, "windFor(40) of one at home", x.windFor(40), 0);
        due(16, "homeFor(0, 24, 0)", x.homeFor(0, 24, 0), 0);
        due(17, "build(0, 0)", x.build(0, 0), 0);
        due(18, "kindFor(0, 40) of one at home", x.kindFor(0, 40), 0);
        due(19, "logsFor(0, 24, 0, 40) of one at home", x.logsFor(0, 24, 0, 40), 0);
        SmokeHome y = new SmokeHome();
        y.fire(FIRE, 24, 4);
        y.fire(FIRE, 0, 4);
        y.fire(FIRE, 2, 1);
        y.fire(FIRE, 10, 14);
        y.fire(FIRE, 14, 10);
        // 1 crosses 2 at 1, and 3 crosses 4 at 12; 0 meets none.
        due(20, "quench(2) of two pairs", y.quench(2), 0b1010);
    }

    private static void odds() {
        long[][] rows = {{0, 1, 1}, {1, 4, 5}, {2, 16, 25}, {25, 1L << 50, 298023223876953125L},
            {26, 1L << 52, 1490116119384765625L}};
        int[][] ways = {{12, 7}, {12, 13}, {12, 17}, {12, 11}, {0, 24}, {24, 0}};
        for (int kind = 0; kind < 7; kind++) {
            for (int[] way : ways) {
                SmokeHome x = with(kind, way[0], way[1]);
                for (long[] r : rows) {
                    due(24, "odds(0, " + r[0] + ", 0)", x.odds(0, (int) r[0], 0), r[1]);
                    due(24, "odds(0, " + r[0] + ", 1)", x.odds(0, (int) r[0], 1), r[2]);
                }
                due(24, "odds(0, 27, 0)", x.odds(0, 27, 0), BEYOND);
            }
            SmokeHome x = with(kind, 24, 24);
            x.change(0, 4, 0);
            for (int n : new int[] {0, 1, 26}) {
                due(24, "odds(0, " + n + ", 0) at home", x.odds(0, n, 0), 1);
                due(24, "odds(0, " + n + ", 1) at home", x.odds(0, n, 1), 1);
            }
            due(24, "odds(0, 27, 1) at home", x.odds(0, 27, 1), BEYOND);
        }
    }

    // ---- images, and how many calls there are

    private static void images() {
        SmokeHome x = new SmokeHome();
        due(36, "image() of nothing", x.image(), 1);
        x.fire(BED, 24, 0);
        x.hold(9, 0);
        x.change(0, 3, 9);
        x.change(0, 5, 9);
        x.change(0, 6, 9);
        due(37, "undo() to nothing", x.undo(), 0);
        due(37, "count(1)", x.count(1), 0);
        due(37, "count(7)", x.count(7), 0);
        due(5, "a first fire again", x.fire(FIRE, 1, 2), 0);
        dueRow(5, x, 0, FIRE, 1, 2, 50, 1, 0, 0);
        SmokeHome y = mostOfAll();
        y.seed(MIN);
        due(36, "image() of the most", y.image(), 1);
        for (int i = 0; i < 8; i++) {
            for (int what = 0; what < 7; what++) {
                y.change(i, what, 0);
            }
        }
        for (int cell = 0; cell < 25; cell++) {
            y.wood(cell, 0);
        }
        for (int spot = 0; spot < 10; spot++) {
            y.hold(spot, -1);
        }
        y.winds(20);
        for (int times = 0; times < 2; times++) {
            due(37, "undo() to the most", y.undo(), 0);
            for (int i = 0; i < 8; i++) {
                dueRow(37, y, i, MOST);
            }
            due(37, "now(1)", y.now(1), 249975);
            due(37, "count(6)", y.count(6), MIN);
            due(37, "count(7)", y.count(7), 10);
            due(37, "wind(0)", y.wind(0), 4);
            due(5, "a 9th fire", y.fire(FIRE, 0, 0), FULL);
        }
        due(38, "tear()", y.tear(), 1);
        due(37, "undo() of nothing", y.undo(), NONE);
        due(38, "tear() of nothing", y.tear(), 0);
    }

    private static void fiveHundredAndTwelveCalls() {
        SmokeHome x = new SmokeHome();
        x.fire(FIRE, 0, 1);
        x.change(0, 3, 999);
        for (int i = 2; i < 511; i++) {
            due(8, "go(1), call " + (i + 1), x.go(1), Math.min(2 * (i - 1), 999));
        }
        due(8, "go(60), the 512th call", x.go(60), 999);
    }
}
