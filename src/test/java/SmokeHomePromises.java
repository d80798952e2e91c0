/** Each promise of the document on hand-reckoned runs: ordinary inputs, edges, wrong inputs. */
public final class SmokeHomePromises extends Checks {
    private static final int[] WILD = {-1, -2, 7, 25, 1000, Integer.MAX_VALUE, Integer.MIN_VALUE};

    public static void main(String[] args) {
        newObject();
        wood();
        cell();
        wind();
        fire();
        of();
        change();
        goHome();
        goAgainstWind();
        goByFirst();
        goByKinds();
        goCrossing();
        goLimits();
        now();
        ahead();
        grown();
        when();
        stuck();
        crosses();
        windFor();
        homeFor();
        build();
        kindFor();
        logsFor();
        quench();
        fits();
        kinds();
        winds();
        odds();
        seed();
        feed();
        wipe();
        textItems();
        textFaults();
        textFull();
        hold();
        as();
        sheet();
        write();
        copy();
        load();
        judge();
        images();
        count();
        status();
        finish();
    }

    private static void newObject() {
        SmokeHome x = new SmokeHome();
        for (int c = 0; c < 25; c++) {
            for (int what = 0; what < 4; what++) {
                due(1, "cell(" + c + ", " + what + ")", x.cell(c, what), 0);
            }
        }
        for (int what = 0; what < 8; what++) {
            due(1, "count(" + what + ")", x.count(what), what == 6 ? 1 : 0);
        }
        for (int what = 0; what < 7; what++) {
            due(1, "now(" + what + ")", x.now(what), 0);
        }
        due(1, "status(-1)", x.status(-1), 0);
        due(1, "wind(0)", x.wind(0), 0);
        due(1, "seed(1)", x.seed(1), 1);
        due(1, "wipe()", x.wipe(), 0);
        due(1, "tear()", x.tear(), 0);
        due(1, "undo()", x.undo(), NONE);
        due(1, "of(0, 0)", x.of(0, 0), BEYOND);
        for (int s = 0; s < 4; s++) {
            due(1, "write(" + s + ", 0, 0)", x.write(s, 0, 0), MISSING);
        }
        for (int spot = 0; spot < 10; spot++) {
            due(1, "as(" + spot + ", 0)", x.as(spot, 0), MISSING);
        }
    }

    private static void wood() {
        SmokeHome x = new SmokeHome();
        due(2, "wood(24, 9999)", x.wood(24, 9999), 0);
        due(2, "wood(24, 3)", x.wood(24, 3), 9999);
        due(2, "wood(0, 1)", x.wood(0, 1), 0);
        for (int w : WILD) {
            due(2, "wood(" + w + ", 0)", x.wood(w == 7 ? -7 : w, 0), BEYOND);
        }
        due(2, "wood(24, 10000)", x.wood(24, 10000), BEYOND);
        due(2, "wood(24, -1)", x.wood(24, -1), BEYOND);
        due(2, "cell(24, 0)", x.cell(24, 0), 3);
        due(2, "now(1)", x.now(1), 4);
    }

    private static void cell() {
        SmokeHome x = new SmokeHome();
        x.fire(FIRE, 3, 9);
        x.fire(JAR, 3, 3);
        x.fire(BED, 9, 3);
        x.wood(3, 77);
        due(3, "cell(3, 0)", x.cell(3, 0), 77);
        due(3, "cell(3, 1)", x.cell(3, 1), 3);
        due(3, "cell(9, 1)", x.cell(9, 1), 4);
        due(3, "cell(3, 2)", x.cell(3, 2), 0);
        x.change(1, 5, 1);
        due(3, "cell(3, 2) with smoke", x.cell(3, 2), 2);
        x.change(1, 4, 9);
        due(3, "cell(3, 2) gone", x.cell(3, 2), 0);
        due(3, "cell(9, 2)", x.cell(9, 2), 2);
        due(3, "cell(3, 3)", x.cell(3, 3), 6);
        due(3, "cell(9, 3)", x.cell(9, 3), 1);
        due(3, "cell(25, 0)", x.cell(25, 0), BEYOND);
        due(3, "cell(-1, 0)", x.cell(-1, 0), BEYOND);
        due(3, "cell(0, 4)", x.cell(0, 4), BEYOND);
        due(3, "cell(0, -1)", x.cell(0, -1), BEYOND);
    }

    private static void wind() {
        SmokeHome x = new SmokeHome();
        due(4, "wind(4)", x.wind(4), 0);
        due(4, "wind(5)", x.wind(5), BEYOND);
        due(4, "wind(-1)", x.wind(-1), BEYOND);
        due(4, "wind(2)", x.wind(2), 4);
        due(4, "wind(0)", x.wind(0), 2);
    }

    private static void fire() {
        SmokeHome x = new SmokeHome();
        due(5, "fire(7, 0, 0)", x.fire(7, 0, 0), BEYOND);
        due(5, "fire(-1, 0, 0)", x.fire(-1, 0, 0), BEYOND);
        due(5, "fire(0, 25, 0)", x.fire(0, 25, 0), BEYOND);
        due(5, "fire(0, -1, 0)", x.fire(0, -1, 0), BEYOND);
        due(5, "fire(0, 0, 25)", x.fire(0, 0, 25), BEYOND);
        due(5, "fire(0, 0, -1)", x.fire(0, 0, -1), BEYOND);
        due(5, "count(1)", x.count(1), 0);
        for (int i = 0; i < 8; i++) {
            due(5, "fire " + i, x.fire(i % 7, i, 24 - i), i);
        }
        due(5, "a ninth", x.fire(0, 0, 0), FULL);
        due(5, "a wrong ninth", x.fire(7, 0, 0), BEYOND);
        due(5, "count(1)", x.count(1), 8);
        dueRow(5, x, 6, BED, 6, 18, 50, 6, 0, 0);
    }

    private static void of() {
        SmokeHome x = new SmokeHome();
        for (int kind = 0; kind < 7; kind++) {
            x.fire(kind, 6, 6);
        }
        int[] even = {2, 5, 1, 3, 3, 2, 10};
        int[] odd = {2, 5, 1, 1, 1, 2, 10};
        int[] third = {1, 2, 1, 1, 1, 1, 3};
        int[] steps = {1, 2, 0, 1, 1, 1, 3};
        for (int hour = 0; hour < 7; hour++) {
            for (int kind = 0; kind < 7; kind++) {
                String call = "of(" + kind + ", 7 or 8) in hour " + hour;
                due(6, call, x.of(kind, 7), hour % 2 == 0 ? even[kind] : odd[kind]);
                due(6, call, x.of(kind, 8), hour % 3 == 0 ? third[kind] : steps[kind]);
            }
            x.go(1);
        }
        x.change(JAR, 6, 4);
        due(6, "of(4, 8) waited 4", x.of(JAR, 8), 1);
        x.change(JAR, 6, 5);
        due(6, "of(4, 8) waited 5", x.of(JAR, 8), 3);
        x.change(POOR, 6, 5);
        due(6, "of(3, 8) waited 5", x.of(POOR, 8), 1);
        x.change(FIRE, 3, 0);
        due(6, "of(0, 7) without logs", x.of(FIRE, 7), 2);
        x.change(FIRE, 4, 20);
        due(6, "of(0, 9)", x.of(FIRE, 9), 4);
        x.change(FIRE, 2, 4);
        due(6, "of(0, 9) across", x.of(FIRE, 9), 8);
        x.change(FIRE, 4, 4);
        due(6, "of(0, 9) at home", x.of(FIRE, 9), 0);
        due(6, "of(0, 10)", x.of(0, 10), BEYOND);
        due(6, "of(0, -1)", x.of(0, -1), BEYOND);
        due(6, "of(7, 0)", x.of(7, 0), BEYOND);
        due(6, "of(-1, 0)", x.of(-1, 0), BEYOND);
    }

    private static void change() {
        SmokeHome x = new SmokeHome();
        due(7, "change(0, 0, 0) of none", x.change(0, 0, 0), BEYOND);
        x.fire(POOR, 7, 9);
        int[] first = {POOR, 7, 9, 50, 7, 0, 0};
        int[] most = {6, 24, 24, 999, 24, 999, 9999};
        for (int what = 0; what < 7; what++) {
            due(7, "change(0, " + what + ", too much)", x.change(0, what, most[what] + 1), BEYOND);
            due(7, "change(0, " + what + ", -1)", x.change(0, what, -1), BEYOND);
            due(7, "change(0, " + what + ", most)", x.change(0, what, most[what]), first[what]);
            for (int w = 0; w < 7; w++) {
                due(7, "of(0, " + w + ") behind change of " + what, x.of(0, w), w == what ? most[w] : first[w]);
            }
            due(7, "change(0, " + what + ", first)", x.change(0, what, first[what]), most[what]);
        }
        due(7, "change(0, 7, 0)", x.change(0, 7, 0), BEYOND);
        due(7, "change(0, -1, 0)", x.change(0, -1, 0), BEYOND);
        due(7, "change(1, 3, 0)", x.change(1, 3, 0), BEYOND);
        due(7, "change(-1, 3, 0)", x.change(-1, 3, 0), BEYOND);
    }

    private static void goHome() {
        SmokeHome x = new SmokeHome();
        x.fire(FIRE, 0, 2);
        due(8, "go(1)", x.go(1), 0);
        dueRow(8, x, 0, FIRE, 0, 2, 48, 1, 2, 0);
        due(8, "go(1) home", x.go(1), 2);
        dueRow(8, x, 0, FIRE, 0, 2, 48, 0, 0, 0);
        due(8, "cell(2, 0)", x.cell(2, 0), 2);
        due(8, "go(10)", x.go(10), 12);
        due(8, "now(0)", x.now(0), 12);
        x.change(0, 3, 1);
        due(8, "go(2) with one log", x.go(2), 13);
        due(8, "of(0, 3)", x.of(0, 3), 0);
        due(8, "go(2) with none", x.go(2), 13);
        due(8, "of(0, 4) with none", x.of(0, 4), 0);
        x.change(0, 4, 7);
        due(8, "go(2) with none elsewhere", x.go(2), 13);
        due(8, "of(0, 4) with none elsewhere", x.of(0, 4), 7);
        x.change(0, 4, 0);
        x.wood(2, 9998);
        x.change(0, 5, 7);
        due(8, "go(2) to the most wood", x.go(2), 9999);
        SmokeHome y = new SmokeHome();
        y.fire(FIRE, 4, 4);
        y.change(0, 5, 6);
        due(8, "go(1) with chimney at home", y.go(1), 6);
        dueRow(8, y, 0, FIRE, 4, 4, 50, 4, 0, 0);
        due(8, "go(60) with chimney at home", y.go(60), 6);
        y.change(0, 1, 8);
        due(8, "go(1) without smoke at home", y.go(1), 6);
        due(8, "smoke of none goes to its chimney too", y.of(0, 4), 8);
    }

    private static void goAgainstWind() {
        int[] homes = {7, 13, 17, 11};
        for (int way = 1; way <= 4; way++) {
            for (int wind = 0; wind <= 4; wind++) {
                SmokeHome x = new SmokeHome();
                x.fire(FIRE, 12, homes[way - 1]);
                x.wind(wind);
                boolean waits = wind != 0 && (wind + 1) % 4 + 1 == way;
                due(8, "go(1) way " + way + " wind " + wind, x.go(1), waits ? 0 : 2);
                due(8, "of(0, 6) way " + way + " wind " + wind, x.of(0, 6), waits ? 1 : 0);
                due(8, "of(0, 5) way " + way + " wind " + wind, x.of(0, 5), waits ? 2 : 0);
            }
        }
        SmokeHome x = new SmokeHome();
        x.fire(BED, 0, 11);
        x.wind(4);
        x.go(1);
        dueRow(8, x, 0, BED, 0, 11, 40, 10, 10, 1);
        x.go(2);
        dueRow(8, x, 0, BED, 0, 11, 40, 10, 10, 3);
        x.change(0, 6, 9999);
        x.go(1);
        due(8, "of(0, 6) at most", x.of(0, 6), 9999);
        x.change(0, 4, 0);
        x.change(0, 5, 995);
        x.wind(1);
        x.go(1);
        dueRow(8, x, 0, BED, 0, 11, 30, 0, 999, 9999);
    }

    private static void goByFirst() {
        int[] rowsFirst = {FIRE, STOVE, PRIEST, FOREIGN, BED};
        for (int kind : rowsFirst) {
            SmokeHome x = new SmokeHome();
            x.fire(kind, 24, 0);
            x.change(0, 4, 18);
            x.change(0, 5, 1);
            x.go(1);
            due(8, "up first, kind " + kind, x.of(0, 4) % 5, 3);
        }
        int[] columnsFirst = {POOR, JAR};
        for (int kind : columnsFirst) {
            SmokeHome x = new SmokeHome();
            x.fire(kind, 24, 0);
            x.go(1);
            due(8, "left first, kind " + kind, x.of(0, 4), 23);
            x.go(3);
            due(8, "left all along, kind " + kind, x.of(0, 4), 20);
            x.go(1);
            due(8, "then up, kind " + kind, x.of(0, 4), 15);
        }
        for (int from = 0; from < 25; from++) {
            for (int home = 0; home < 25; home++) {
                dueFirst(from, home, FIRE, from / 5 != home / 5);
                dueFirst(from, home, POOR, from % 5 == home % 5);
            }
        }
    }

    private static void dueFirst(int from, int home, int kind, boolean byRow) {
        SmokeHome x = new SmokeHome();
        x.fire(kind, home, home);
        x.change(0, 4, from);
        x.change(0, 5, 8);
        x.go(1);
        int way = byRow ? 5 * Integer.signum(home / 5 - from / 5) : Integer.signum(home % 5 - from % 5);
        due(8, "kind " + kind + " from " + from + " to " + home, x.of(0, 4), from + way);
    }

    private static void goByKinds() {
        SmokeHome x = new SmokeHome();
        x.fire(PRIEST, 0, 4);
        int[] at = {1, 1, 1, 2, 2, 2, 3};
        for (int hour = 0; hour < 7; hour++) {
            x.go(1);
            due(8, "priest behind hour " + hour, x.of(0, 4), at[hour]);
        }
        due(8, "priest's logs", x.of(0, 3), 49);
        SmokeHome jar = new SmokeHome();
        jar.wind(4);
        jar.fire(JAR, 0, 4);
        jar.fire(FOREIGN, 20, 24);
        jar.change(1, 5, 18);
        jar.go(1);
        due(8, "jar bears", jar.of(0, 4), 1);
        due(8, "foreign of 20 waits", jar.of(1, 4), 20);
        due(8, "foreign waited", jar.of(1, 6), 1);
        jar.change(0, 6, 5);
        jar.go(1);
        due(8, "jar that waited makes three", jar.of(0, 4), 0);
        due(8, "jar is home", jar.cell(4, 0), 3);
        due(8, "foreign of 22 goes", jar.of(1, 4), 21);
        due(8, "foreign of 22", jar.of(1, 5), 22);
        jar.change(1, 5, 21);
        jar.go(1);
        due(8, "foreign of 21 goes", jar.of(1, 4), 22);
        jar.change(1, 5, 20);
        jar.go(1);
        due(8, "foreign of 20 stays", jar.of(1, 4), 22);
        SmokeHome poor = new SmokeHome();
        poor.wind(3);
        poor.fire(POOR, 20, 0);
        poor.go(1);
        due(8, "poor burns three", poor.of(0, 5), 3);
        poor.go(1);
        due(8, "poor burns one", poor.of(0, 5), 4);
        due(8, "poor waits", poor.of(0, 6), 2);
    }

    private static void goCrossing() {
        SmokeHome x = new SmokeHome();
        x.fire(FIRE, 0, 2);
        x.fire(FIRE, 2, 0);
        x.change(0, 5, 38);
        x.change(1, 5, 7);
        x.go(1);
        due(8, "now(3) crossed", x.now(3), 1);
        due(8, "of(0, 5) crossed", x.of(0, 5), 40 - 10 + 2);
        due(8, "of(1, 5) crossed", x.of(1, 5), 9 - 2 + 10);
        x.go(1);
        due(8, "now(3) parted", x.now(3), 1);
        due(8, "cell(2, 0)", x.cell(2, 0), 32);
        due(8, "cell(0, 0)", x.cell(0, 0), 17);
        SmokeHome still = new SmokeHome();
        still.fire(FIRE, 12, 7);
        still.fire(FIRE, 12, 2);
        still.wind(3);
        still.go(3);
        due(8, "now(3) both stood", still.now(3), 0);
        due(8, "cell(12, 2)", still.cell(12, 2), 3);
        still.fire(FIRE, 13, 10);
        still.go(1);
        due(8, "now(3) a third came", still.now(3), 2);
        due(8, "of(0, 5)", still.of(0, 5), 6);
        due(8, "of(1, 5)", still.of(1, 5), 8 - 2 + 1);
        due(8, "of(2, 5)", still.of(2, 5), 2 + 2 - 1 + 2);
        SmokeHome home = new SmokeHome();
        home.fire(FIRE, 0, 1);
        home.fire(FIRE, 2, 1);
        home.fire(FIRE, 6, 1);
        home.change(0, 5, 6);
        due(8, "three cross at home", home.go(1), 12);
        crossingWithLittle(0, 0);
        crossingWithLittle(1, 1);
        due(8, "now(3) at home", home.now(3), 3);
    }

    /** One comes to where the other one stands, either of which may be the first by number. */
    private static void crossingWithLittle(int much, int crossed) {
        for (int comes = 0; comes < 2; comes++) {
            SmokeHome x = new SmokeHome();
            x.fire(FIRE, 0, 24);
            x.fire(FIRE, 0, 24);
            x.change(comes, 4, 7);
            x.change(comes, 5, 1);
            x.change(1 - comes, 4, 12);
            x.change(1 - comes, 5, much);
            x.change(1 - comes, 0, PRIEST);
            x.go(1);
            x.change(1 - comes, 4, 17);
            x.go(1);
            due(8, "cell(17, 2) with " + much, x.cell(17, 2), much == 0 ? 1 << comes : 3);
            due(8, "now(3) with " + much, x.now(3), crossed);
        }
    }

    private static void goLimits() {
        SmokeHome x = new SmokeHome();
        due(8, "go(0)", x.go(0), BEYOND);
        due(8, "go(61)", x.go(61), BEYOND);
        due(8, "go(-1)", x.go(-1), BEYOND);
        due(8, "go(60)", x.go(60), 0);
        due(8, "now(0)", x.now(0), 60);
        // More calls than the document binds: no shorter way leads to the last HOUR.
        for (int i = 0; i < 1665; i++) {
            x.go(60);
        }
        due(8, "now(0)", x.now(0), 99960);
        due(8, "go(40)", x.go(40), STATE);
        due(8, "winds(20)", x.winds(20), 0);
        due(23, "winds(20)", x.winds(20), STATE);
        due(8, "go(20)", x.go(20), STATE);
        x.image();
        due(23, "winds(19)", x.winds(19), 0);
        due(23, "now(0)", x.now(0), 99999);
        due(37, "undo()", x.undo(), 99980);
        due(8, "go(19)", x.go(19), 0);
        due(8, "now(0)", x.now(0), 99999);
        due(8, "go(1)", x.go(1), STATE);
        due(23, "winds(1)", x.winds(1), STATE);
        due(8, "go(0)", x.go(0), BEYOND);
        due(10, "grown(0, 100) at the last hour", x.grown(0, 100), 0);
        SmokeHome y = new SmokeHome();
        for (int i = 0; i < 8; i++) {
            y.fire(FIRE, 0, 1);
        }
        for (int i = 0; i < 8 * 450 && y.now(3) < 99999; i++) {
            if (i % 8 == 0) {
                for (int f = 0; f < 8; f++) {
                    y.change(f, 3, 999);
                }
            }
            y.go(60);
        }
        due(8, "now(3) at most", y.now(3), 99999);
        due(14, "crosses() at most", y.crosses(), NONE);
        due(20, "quench(20) at most", y.quench(20), 0);
    }

    private static void now() {
        SmokeHome x = new SmokeHome();
        x.fire(FIRE, 0, 2);
        x.fire(STOVE, 20, 24);
        x.wood(3, 5);
        x.wood(24, 1);
        x.go(1);
        due(9, "now(0)", x.now(0), 1);
        due(9, "now(1)", x.now(1), 6);
        due(9, "now(2)", x.now(2), 7);
        due(9, "now(3)", x.now(3), 0);
        due(9, "now(4)", x.now(4), 93);
        due(9, "now(5)", x.now(5), 1 << 24 | 1 << 3);
        due(9, "now(6)", x.now(6), 3);
        x.change(0, 5, 0);
        due(9, "now(6) of one", x.now(6), 2);
        x.change(0, 5, 1);
        due(9, "now(6) of both", x.now(6), 3);
        x.wood(0, 1);
        due(9, "now(5)", x.now(5), 1 << 24 | 1 << 3 | 1);
        due(9, "now(7)", x.now(7), BEYOND);
        due(9, "now(-1)", x.now(-1), BEYOND);
    }

    private static void ahead() {
        SmokeHome x = new SmokeHome();
        x.fire(FIRE, 0, 2);
        int[] first = {50, 0, 0, 0};
        int[] second = {48, 1, 2, 0};
        for (int what = 3; what <= 6; what++) {
            due(10, "ahead(0, " + what + ", 0)", x.ahead(0, what, 0), first[what - 3]);
            due(10, "ahead(0, " + what + ", 1)", x.ahead(0, what, 1), second[what - 3]);
        }
        due(10, "ahead(0, 3, 2)", x.ahead(0, 3, 2), 48);
        due(10, "ahead(0, 3, 100)", x.ahead(0, 3, 100), 0);
        x.wind(4);
        due(10, "ahead(0, 6, 100)", x.ahead(0, 6, 100), 100);
        due(10, "ahead(0, 5, 100)", x.ahead(0, 5, 100), 50);
        due(10, "now(0)", x.now(0), 0);
        due(10, "of(0, 3)", x.of(0, 3), 50);
        due(10, "ahead(0, 2, 0)", x.ahead(0, 2, 0), BEYOND);
        due(10, "ahead(0, 7, 0)", x.ahead(0, 7, 0), BEYOND);
        due(10, "ahead(0, 3, 101)", x.ahead(0, 3, 101), BEYOND);
        due(10, "ahead(0, 3, -1)", x.ahead(0, 3, -1), BEYOND);
        due(10, "ahead(1, 3, 0)", x.ahead(1, 3, 0), BEYOND);
        due(10, "ahead(-1, 3, 0)", x.ahead(-1, 3, 0), BEYOND);
    }

    private static void grown() {
        SmokeHome x = new SmokeHome();
        x.fire(FIRE, 0, 2);
        x.wood(2, 10);
        due(11, "grown(2, 0)", x.grown(2, 0), 10);
        due(11, "grown(2, 1)", x.grown(2, 1), 10);
        due(11, "grown(2, 2)", x.grown(2, 2), 12);
        due(11, "grown(2, 100)", x.grown(2, 100), 60);
        due(11, "grown(1, 100)", x.grown(1, 100), 0);
        due(11, "cell(2, 0)", x.cell(2, 0), 10);
        due(11, "grown(25, 0)", x.grown(25, 0), BEYOND);
        due(11, "grown(-1, 0)", x.grown(-1, 0), BEYOND);
        due(11, "grown(0, 101)", x.grown(0, 101), BEYOND);
        due(11, "grown(0, -1)", x.grown(0, -1), BEYOND);
    }

    private static void when() {
        SmokeHome x = new SmokeHome();
        x.fire(FIRE, 0, 2);
        due(12, "when(2, 0)", x.when(2, 0), 0);
        due(12, "when(2, 1)", x.when(2, 1), 2);
        due(12, "when(2, 3)", x.when(2, 3), 4);
        due(12, "when(2, 50)", x.when(2, 50), 50);
        due(12, "when(2, 51)", x.when(2, 51), NONE);
        x.change(0, 3, 999);
        due(12, "when(2, 100)", x.when(2, 100), 100);
        due(12, "when(2, 101)", x.when(2, 101), NONE);
        due(12, "when(2, 9999)", x.when(2, 9999), NONE);
        due(12, "when(2, 10000)", x.when(2, 10000), BEYOND);
        due(12, "when(2, -1)", x.when(2, -1), BEYOND);
        due(12, "when(25, 0)", x.when(25, 0), BEYOND);
        due(12, "when(-1, 0)", x.when(-1, 0), BEYOND);
        due(12, "now(0)", x.now(0), 0);
    }

    private static void stuck() {
        SmokeHome x = new SmokeHome();
        x.fire(FIRE, 0, 12);
        due(13, "stuck(0)", x.stuck(0), NONE);
        x.wind(4);
        due(13, "stuck(0) sideways", x.stuck(0), 3);
        x.wind(1);
        due(13, "stuck(0) at once", x.stuck(0), 1);
        x.change(0, 6, 30);
        due(13, "stuck(0) again", x.stuck(0), 1);
        x.change(0, 6, 9999);
        due(13, "stuck(0) at most", x.stuck(0), NONE);
        due(13, "stuck(1)", x.stuck(1), BEYOND);
        due(13, "stuck(-1)", x.stuck(-1), BEYOND);
        due(13, "now(0)", x.now(0), 0);
        // The bed's smoke waits at 5 and feeds the foreign one's, until there is too little of it.
        SmokeHome y = new SmokeHome();
        y.wind(4);
        y.fire(FOREIGN, 0, 6);
        y.change(0, 3, 999);
        y.change(0, 5, 647);
        y.fire(BED, 5, 6);
        y.change(1, 3, 965);
        due(13, "stuck(0) in the last hour", y.stuck(0), 100);
        y.image();
        y.go(60);
        y.go(39);
        due(13, "of(0, 6) behind 99", y.of(0, 6), 0);
        y.go(1);
        due(13, "of(0, 6) behind 100", y.of(0, 6), 1);
        y.undo();
        y.change(1, 3, 999);
        due(13, "stuck(0) later than that", y.stuck(0), NONE);
        y.go(60);
        y.go(40);
        due(13, "of(0, 6) behind 100 with more logs", y.of(0, 6), 0);
    }

    private static void crosses() {
        SmokeHome x = new SmokeHome();
        due(14, "crosses() of none", x.crosses(), NONE);
        x.fire(FIRE, 0, 4);
        x.fire(FIRE, 4, 0);
        due(14, "crosses()", x.crosses(), 2);
        x.go(2);
        due(14, "now(3)", x.now(3), 1);
        due(14, "crosses() again", x.crosses(), 4);
        x.wind(2);
        x.change(0, 3, 0);
        x.change(0, 5, 0);
        due(14, "crosses() against the wind", x.crosses(), NONE);
        due(14, "now(3)", x.now(3), 1);
        // One gathers smoke for eleven hours each time, the other one comes and goes.
        SmokeHome y = new SmokeHome();
        y.wind(1);
        y.fire(FOREIGN, 19, 24);
        y.change(0, 5, 55);
        y.fire(FOREIGN, 19, 21);
        y.change(1, 5, 18);
        y.change(0, 3, 999);
        y.change(1, 3, 999);
        due(14, "crosses() in the last hour", y.crosses(), 100);
        y.go(60);
        y.go(39);
        due(14, "now(3) behind 99", y.now(3), 0);
        due(14, "crosses() next", y.crosses(), 1);
        y.go(1);
        due(14, "now(3) behind 100", y.now(3), 1);
    }

    private static void windFor() {
        SmokeHome x = new SmokeHome();
        due(15, "windFor(5)", x.windFor(5), 0);
        x.fire(FIRE, 0, 4);
        x.fire(FIRE, 24, 4);
        x.change(1, 5, 100);
        due(15, "windFor(40)", x.windFor(40), 0);
        SmokeHome y = new SmokeHome();
        y.fire(FIRE, 11, 16);
        y.fire(FIRE, 16, 15);
        y.wood(15, 9999);
        due(15, "windFor(0)", y.windFor(0), 0);
        due(15, "windFor(1)", y.windFor(1), 0);
        // Held back at 16, the second one's smoke goes home with the first one's, not to a full wood.
        due(15, "windFor(3)", y.windFor(3), 2);
        due(15, "windFor(41)", y.windFor(41), BEYOND);
        due(15, "windFor(-1)", y.windFor(-1), BEYOND);
        due(15, "wind stays", y.wind(3), 0);
        due(15, "windFor(3) whatever blows now", y.windFor(3), 2);
        due(15, "wind stays", y.wind(3), 3);
        SmokeHome z = new SmokeHome();
        z.fire(FIRE, 11, 16);
        z.fire(FIRE, 16, 17);
        z.wood(17, 9999);
        due(15, "windFor(3) to the left", z.windFor(3), 4);
    }

    private static void homeFor() {
        SmokeHome x = new SmokeHome();
        x.fire(FIRE, 0, 20);
        due(16, "homeFor(0, 6, 10)", x.homeFor(0, 6, 10), 6);
        due(16, "homeFor(0, 6, 0)", x.homeFor(0, 6, 0), 0);
        due(16, "homeFor(0, 6, 1)", x.homeFor(0, 6, 1), 0);
        due(16, "homeFor(0, 24, 8)", x.homeFor(0, 24, 8), 24);
        due(16, "homeFor(0, 24, 7)", x.homeFor(0, 24, 7), 0);
        due(16, "of(0, 2)", x.of(0, 2), 20);
        due(16, "homeFor(1, 0, 0)", x.homeFor(1, 0, 0), BEYOND);
        due(16, "homeFor(-1, 0, 0)", x.homeFor(-1, 0, 0), BEYOND);
        due(16, "homeFor(0, 25, 0)", x.homeFor(0, 25, 0), BEYOND);
        due(16, "homeFor(0, -1, 0)", x.homeFor(0, -1, 0), BEYOND);
        due(16, "homeFor(0, 0, 41)", x.homeFor(0, 0, 41), BEYOND);
        due(16, "homeFor(0, 0, -1)", x.homeFor(0, 0, -1), BEYOND);
        due(16, "homeFor(0, 0, 40)", x.homeFor(0, 0, 40), 0);
        x.change(0, 4, 12);
        x.change(0, 5, 9);
        due(16, "homeFor(0, 7, 1) from where it is", x.homeFor(0, 7, 1), 7);
    }

    private static void build() {
        SmokeHome x = new SmokeHome();
        x.fire(FIRE, 24, 2);
        due(17, "build(0, 10)", x.build(0, 10), 0);
        x.wind(4);
        due(17, "build(0, 10) wind left", x.build(0, 10), 2);
        due(17, "build(0, 2) wind left", x.build(0, 2), 2);
        x.change(0, 2, 14);
        due(17, "build(0, 2) two steps off", x.build(0, 2), 0);
        due(17, "build(0, 3) two steps off", x.build(0, 3), 4);
        x.wind(1);
        due(17, "build(0, 3) wind up", x.build(0, 3), 10);
        due(17, "build(0, 0)", x.build(0, 0), 0);
        due(17, "of(0, 1)", x.of(0, 1), 24);
        due(17, "build(1, 0)", x.build(1, 0), BEYOND);
        due(17, "build(-1, 0)", x.build(-1, 0), BEYOND);
        due(17, "build(0, 41)", x.build(0, 41), BEYOND);
        due(17, "build(0, -1)", x.build(0, -1), BEYOND);
        x.change(0, 6, 9999);
        due(17, "build(0, 40) waited most", x.build(0, 40), 0);
    }

    private static void kindFor() {
        SmokeHome x = new SmokeHome();
        x.fire(FIRE, 0, 1);
        due(18, "kindFor(0, 0)", x.kindFor(0, 0), 0);
        due(18, "kindFor(0, 1)", x.kindFor(0, 1), BED);
        due(18, "kindFor(0, 10)", x.kindFor(0, 10), STOVE);
        due(18, "kindFor(0, 25)", x.kindFor(0, 25), FIRE);
        x.wind(4);
        due(18, "kindFor(0, 1) against the wind", x.kindFor(0, 1), JAR);
        due(18, "kindFor(0, 40) against the wind", x.kindFor(0, 40), JAR);
        x.change(0, 5, 400);
        x.change(0, 3, 0);
        due(18, "kindFor(0, 1) with much", x.kindFor(0, 1), JAR);
        x.change(0, 3, 2);
        due(18, "kindFor(0, 1) with two logs", x.kindFor(0, 1), JAR);
        x.go(1);
        due(18, "kindFor(0, 1) in an odd hour", x.kindFor(0, 1), JAR);
        x.change(0, 3, 3);
        due(18, "kindFor(0, 1), foreign burns more", x.kindFor(0, 1), FOREIGN);
        due(18, "of(0, 0)", x.of(0, 0), FIRE);
        due(18, "kindFor(1, 0)", x.kindFor(1, 0), BEYOND);
        due(18, "kindFor(-1, 0)", x.kindFor(-1, 0), BEYOND);
        due(18, "kindFor(0, 41)", x.kindFor(0, 41), BEYOND);
        due(18, "kindFor(0, -1)", x.kindFor(0, -1), BEYOND);
    }

    private static void logsFor() {
        SmokeHome x = new SmokeHome();
        x.fire(FIRE, 0, 2);
        due(19, "logsFor(0, 2, 0, 0)", x.logsFor(0, 2, 0, 0), 0);
        due(19, "logsFor(0, 2, 1, 2)", x.logsFor(0, 2, 1, 2), 1);
        due(19, "logsFor(0, 2, 2, 2)", x.logsFor(0, 2, 2, 2), 2);
        due(19, "logsFor(0, 2, 3, 2)", x.logsFor(0, 2, 3, 2), NONE);
        due(19, "logsFor(0, 2, 17, 40)", x.logsFor(0, 2, 17, 40), 17);
        due(19, "logsFor(0, 2, 40, 40)", x.logsFor(0, 2, 40, 40), 40);
        due(19, "logsFor(0, 2, 41, 40)", x.logsFor(0, 2, 41, 40), NONE);
        due(19, "of(0, 3)", x.of(0, 3), 50);
        SmokeHome y = new SmokeHome();
        y.fire(BED, 0, 1);
        due(19, "logsFor(0, 1, 200, 40)", y.logsFor(0, 1, 200, 40), 200);
        due(19, "logsFor(0, 1, 201, 40)", y.logsFor(0, 1, 201, 40), NONE);
        due(19, "logsFor(0, 1, 9999, 40)", y.logsFor(0, 1, 9999, 40), NONE);
        due(19, "logsFor(0, 1, 10000, 0)", y.logsFor(0, 1, 10000, 0), BEYOND);
        due(19, "logsFor(0, 1, -1, 0)", y.logsFor(0, 1, -1, 0), BEYOND);
        due(19, "logsFor(0, 25, 0, 0)", y.logsFor(0, 25, 0, 0), BEYOND);
        due(19, "logsFor(0, -1, 0, 0)", y.logsFor(0, -1, 0, 0), BEYOND);
        due(19, "logsFor(1, 0, 0, 0)", y.logsFor(1, 0, 0, 0), BEYOND);
        due(19, "logsFor(-1, 0, 0, 0)", y.logsFor(-1, 0, 0, 0), BEYOND);
        due(19, "logsFor(0, 0, 0, 41)", y.logsFor(0, 0, 0, 41), BEYOND);
        due(19, "logsFor(0, 0, 0, -1)", y.logsFor(0, 0, 0, -1), BEYOND);
    }

    private static void quench() {
        SmokeHome x = new SmokeHome();
        due(20, "quench(20) of none", x.quench(20), 0);
        x.fire(FIRE, 0, 4);
        x.fire(FIRE, 10, 14);
        x.fire(FIRE, 4, 0);
        due(20, "quench(1)", x.quench(1), 0);
        due(20, "quench(2)", x.quench(2), 1);
        x.fire(FIRE, 12, 2);
        due(20, "quench(20) of 0, 2 and 3", x.quench(20), 5);
        x.change(2, 2, 4);
        due(20, "quench(20) of 0 and 3", x.quench(20), 1);
        x.change(0, 5, 9);
        x.change(0, 3, 0);
        due(20, "quench(20) puts out smoke", x.quench(20), 1);
        due(20, "of(0, 5)", x.of(0, 5), 9);
        due(20, "of(3, 3)", x.of(3, 3), 50);
        due(20, "quench(21)", x.quench(21), BEYOND);
        due(20, "quench(-1)", x.quench(-1), BEYOND);
        SmokeHome y = new SmokeHome();
        for (int i = 0; i < 8; i++) {
            y.fire(FIRE, 0, 1);
        }
        due(20, "quench(1) of eight together", y.quench(1), 127);
        due(20, "quench(0)", y.quench(0), 0);
    }

    private static void fits() {
        SmokeHome x = new SmokeHome();
        x.fire(FIRE, 12, 12);
        due(21, "fits(4, 0)", x.fits(4, 0), BEYOND);
        due(21, "fits(-1, 0)", x.fits(-1, 0), BEYOND);
        due(21, "fits(0, 9)", x.fits(0, 9), MISSING);
        x.sheet(0, 8, 0);
        due(21, "fits(0, 1)", x.fits(0, 1), BEYOND);
        due(21, "fits(0, -1)", x.fits(0, -1), BEYOND);
        due(21, "fits(0, 0)", x.fits(0, 0), (1 << 25) - 1);
        fill(x, 0, 8, 12);
        due(21, "now there", x.fits(0, 0), (1 << 25) - 1);
        fill(x, 0, 8, 11);
        due(21, "now elsewhere", x.fits(0, 0), 0);
        fill(x, 0, 8, 255, 7);
        due(21, "up and on", x.fits(0, 0), 0b1111111111 - (1 << 7));
        fill(x, 1, 32, -1, 7, 2, 3);
        due(21, "up, up, right", x.fits(1, 0), 1 << 4);
        fill(x, 1, 32, -1, -1, -1, 12);
        due(21, "at the chimney behind three", x.fits(1, 0), notTwoNorFourFrom12());
        fill(x, 1, 16, 25);
        due(21, "no such cell", x.fits(1, 0), 0);
        fill(x, 1, 16, -2);
        due(21, "not any", x.fits(1, 0), 0);
        due(21, "of(0, 2)", x.of(0, 2), 12);
    }

    /** Smoke that goes one, or three STEPS, is back behind three HOURS. */
    private static int notTwoNorFourFrom12() {
        int set = 0;
        for (int c = 0; c < 25; c++) {
            int far = Math.abs(c / 5 - 2) + Math.abs(c % 5 - 2);
            set |= far != 2 && far != 4 ? 1 << c : 0;
        }
        return set;
    }

    private static void kinds() {
        SmokeHome x = new SmokeHome();
        x.fire(FIRE, 0, 24);
        due(22, "kinds(4, 0)", x.kinds(4, 0), BEYOND);
        due(22, "kinds(-1, 0)", x.kinds(-1, 0), BEYOND);
        due(22, "kinds(0, 1)", x.kinds(0, 1), MISSING);
        x.sheet(0, 8, 0);
        due(22, "kinds(0, 1)", x.kinds(0, 1), BEYOND);
        due(22, "kinds(0, 0)", x.kinds(0, 0), 127);
        fill(x, 0, 16, -1, 5);
        due(22, "one down", x.kinds(0, 0), 1 << FIRE | 1 << PRIEST | 1 << FOREIGN);
        fill(x, 0, 16, -1, 5, 10);
        due(22, "two down", x.kinds(0, 0), 1 << FIRE | 1 << FOREIGN);
        fill(x, 0, 16, -1, 5, 5);
        due(22, "stands", x.kinds(0, 0), 1 << PRIEST);
        fill(x, 0, 16, -1, 1);
        due(22, "one right", x.kinds(0, 0), 1 << POOR | 1 << JAR);
        fill(x, 0, 16, 0, 10);
        due(22, "two at once", x.kinds(0, 0), 1 << STOVE);
        fill(x, 0, 16, 0, 15);
        due(22, "three at once", x.kinds(0, 0), 1 << BED);
        x.wind(4);
        fill(x, 0, 16, 0, 1);
        due(22, "against the wind", x.kinds(0, 0), 1 << JAR);
        fill(x, 0, 16, 1);
        due(22, "elsewhere now", x.kinds(0, 0), 0);
        due(22, "of(0, 0)", x.of(0, 0), FIRE);
    }

    private static int drawn(int z) {
        return (z >>> 8) % 5;
    }

    private static void winds() {
        SmokeHome x = new SmokeHome();
        due(23, "winds(0)", x.winds(0), BEYOND);
        due(23, "winds(21)", x.winds(21), BEYOND);
        due(23, "winds(-1)", x.winds(-1), BEYOND);
        int z = 1;
        for (int i = 0; i < 40; i++) {
            z = z * 1103515245 + 12345;
            x.winds(1);
            due(23, "count(6) behind " + i, x.count(6), z);
            due(23, "wind behind " + i, x.wind(0), drawn(z));
        }
        due(23, "now(0)", x.now(0), 40);
        SmokeHome y = new SmokeHome();
        y.fire(FIRE, 10, 11);
        y.change(0, 3, 999);
        y.seed(-77);
        int seen = -77;
        int waited = 0;
        int held = 0;
        int grew = 0;
        for (int i = 0; i < 20; i++) {
            seen = seen * 1103515245 + 12345;
            held += 2;
            if (drawn(seen) == 4) {
                waited++;
            } else {
                grew += held;
                held = 0;
            }
        }
        due(23, "winds(20)", y.winds(20), grew);
        due(23, "of(0, 6)", y.of(0, 6), waited);
        due(23, "now(0)", y.now(0), 20);
        due(23, "some waited", waited > 0 ? 1 : 0, 1);
    }

    private static void odds() {
        SmokeHome x = new SmokeHome();
        due(24, "odds(0, 0, 0)", x.odds(0, 0, 0), BEYOND);
        x.fire(JAR, 0, 1);
        long above = 1;
        long below = 1;
        for (int n = 0; n <= 26; n++) {
            due(24, "odds(0, " + n + ", 0)", x.odds(0, n, 0), above);
            due(24, "odds(0, " + n + ", 1)", x.odds(0, n, 1), below);
            above *= 4;
            below *= 5;
        }
        due(24, "odds(0, 26, 1)", x.odds(0, 26, 1), 1490116119384765625L);
        due(24, "odds(0, 27, 0)", x.odds(0, 27, 0), BEYOND);
        due(24, "odds(0, -1, 0)", x.odds(0, -1, 0), BEYOND);
        due(24, "odds(0, 0, 2)", x.odds(0, 0, 2), BEYOND);
        due(24, "odds(0, 0, -1)", x.odds(0, 0, -1), BEYOND);
        due(24, "odds(-1, 0, 0)", x.odds(-1, 0, 0), BEYOND);
        x.change(0, 4, 1);
        due(24, "odds from the chimney", x.odds(0, 2, 1), 25);
        x.change(0, 1, 1);
        due(24, "odds at home, above", x.odds(0, 26, 0), 1);
        due(24, "odds at home, below", x.odds(0, 26, 1), 1);
    }

    private static void seed() {
        SmokeHome x = new SmokeHome();
        due(25, "seed(-1000001)", x.seed(-1000001), 1);
        due(25, "count(6)", x.count(6), -1000001);
        due(25, "seed(min)", x.seed(Integer.MIN_VALUE), -1000001);
        due(25, "seed(0)", x.seed(0), Integer.MIN_VALUE);
        due(25, "status(-1)", x.status(-1), 0);
    }

    private static void feed() {
        SmokeHome x = new SmokeHome();
        due(26, "feed(0, 0)", x.feed(0, 0), BEYOND);
        due(26, "feed(0, 5)", x.feed(0, 5), BEYOND);
        due(26, "feed(0, -1)", x.feed(0, -1), BEYOND);
        due(26, "feed('wind', 4)", x.feed(0x77696e64, 4), 4);
        due(26, "feed('  3', 2)", x.feed(0x7f7f2033, 2), 6);
        due(26, "text()", x.text(), 1);
        due(26, "wind(0)", x.wind(0), 3);
        for (int i = 1; i <= 118; i++) {
            due(26, "feed(32, 1)", x.feed(32, 1), i);
        }
        due(26, "feed(0, 3)", x.feed(0, 3), FULL);
        due(26, "feed(0, 5)", x.feed(0, 5), BEYOND);
        due(26, "count(5)", x.count(5), 118);
        due(26, "feed(0, 2)", x.feed(0, 2), 120);
        due(26, "feed(0, 1)", x.feed(0, 1), FULL);
        due(26, "count(5)", x.count(5), 120);
    }

    private static void wipe() {
        SmokeHome x = new SmokeHome();
        x.feed(0, 3);
        due(27, "wipe()", x.wipe(), 3);
        due(27, "wipe()", x.wipe(), 0);
        due(27, "text()", x.text(), -1);
        due(27, "feed(0, 1)", x.feed(0, 1), 1);
    }

    private static void textItems() {
        SmokeHome x = new SmokeHome();
        dueText(x, "fire", 1);
        dueRow(28, x, 0, FIRE, 0, 0, 50, 0, 0, 0);
        dueText(x, "stove at 7;priest home 9;poor logs 0", 3);
        dueRow(28, x, 1, STOVE, 7, 7, 50, 7, 0, 0);
        dueRow(28, x, 2, PRIEST, 0, 9, 50, 0, 0, 0);
        dueRow(28, x, 3, POOR, 0, 0, 0, 0, 0, 0);
        dueText(x, "  jar at24home0logs999  ;  foreign at 3 logs 7 ; bed home 00024 logs 0000000000012 ", 3);
        dueRow(28, x, 4, JAR, 24, 0, 999, 24, 0, 0);
        dueRow(28, x, 5, FOREIGN, 3, 3, 7, 3, 0, 0);
        dueRow(28, x, 6, BED, 0, 24, 12, 0, 0, 0);
        dueText(x, "wind 3;wood 24 9999;wood 0 1;wood 0 2;wind4", 5);
        due(28, "cell(24, 0)", x.cell(24, 0), 9999);
        due(28, "cell(0, 0)", x.cell(0, 0), 2);
        due(28, "wind(0)", x.wind(0), 4);
        due(28, "status(-1)", x.status(-1), 0);
    }

    private static void textFaults() {
        SmokeHome x = new SmokeHome();
        dueText(x, "", -1);
        dueText(x, "   ", -4);
        dueText(x, ";", -1);
        dueText(x, "fire;", -6);
        dueText(x, "fire;;fire", -6);
        dueText(x, "wind 1 ; ", -10);
        dueText(x, "fires", -1);
        dueText(x, "fir", -1);
        dueText(x, "gire", -1);
        dueText(x, "fira", -1);
        dueText(x, "firez", -1);
        dueText(x, "fire zt 3", -6);
        dueText(x, "Fire", -1);
        dueText(x, "at 3", -1);
        dueText(x, "7", -1);
        dueText(x, "fire at", -8);
        dueText(x, "fire at  ", -10);
        dueText(x, "fire at 25", -9);
        dueText(x, "fire at 24 home 25", -17);
        dueText(x, "fire home", -10);
        dueText(x, "fire home 0 at 3", -13);
        dueText(x, "fire logs 3 home 3", -13);
        dueText(x, "fire at 3 at 4", -11);
        dueText(x, "fire logs 1000", -11);
        dueText(x, "fire logs", -10);
        dueText(x, "fire 5", -6);
        dueText(x, "fire athome", -6);
        dueText(x, "fire at ;", -9);
        dueText(x, "fire fire", -6);
        dueText(x, "wind 5", -6);
        dueText(x, "wind", -5);
        dueText(x, "wind 99999999999999999999", -6);
        dueText(x, "wind 4294967297", -6);
        dueText(x, "wind 1 2", -8);
        dueText(x, "wind wood", -6);
        dueText(x, "wood 25 0", -6);
        dueText(x, "wood 24 10000", -9);
        dueText(x, "wood 24", -8);
        dueText(x, "wood", -5);
        dueText(x, "wood 3 4 5", -10);
        dueText(x, "wood 3;4", -7);
        dueText(x, "fire\tat 3", -5);
        dueText(x, "fire at\n3", -8);
        dueText(x, "fire,", -5);
        dueText(x, "wind 1\u0000", -7);
        dueText(x, "wind \u00b1", -6);
        dueText(x, "wind -1", -6);
        dueText(x, "fire at 3;wind 2;wood 3 7;@", -27);
        due(28, "count(1)", x.count(1), 0);
        due(28, "wind(0)", x.wind(0), 0);
        due(28, "now(1)", x.now(1), 0);
        due(28, "status(-1)", x.status(-1), 0);
        due(28, "feed(0, 1)", x.feed(0, 1), 1);
    }

    private static void textFull() {
        SmokeHome x = new SmokeHome();
        for (int i = 0; i < 6; i++) {
            x.fire(POOR, i, i);
        }
        dueText(x, "fire;jar;bed at", -10);
        due(28, "count(1)", x.count(1), 6);
        dueText(x, "wind 1; fire at 9; wind 2; jar; wind 3; bed at 99", -41);
        due(28, "count(1)", x.count(1), 6);
        dueText(x, "fire at 9; jar", 2);
        due(28, "of(6, 1)", x.of(6, 1), 9);
        due(28, "of(7, 0)", x.of(7, 0), JAR);
        dueText(x, "wind 1;fire", -8);
        due(28, "wind(2)", x.wind(2), 0);
        dueText(x, "wind 1", 1);
        SmokeHome y = new SmokeHome();
        type(y, "wood 24 9999;wood 24 9999;wood 24 9999;wood 24 9999;wood 24 9999;wood 24 9999;");
        type(y, "wood 24 9999;wood 24 9999;wood 24 9999");
        type(y, "  ;");
        due(28, "count(5)", y.count(5), 119);
        y.feed('x', 1);
        due(28, "text() of 120 bytes", y.text(), -120);
        due(28, "now(1)", y.now(1), 0);
    }

    private static void hold() {
        SmokeHome x = new SmokeHome();
        x.fire(FIRE, 0, 0);
        due(29, "hold(9, 0)", x.hold(9, 0), 1);
        due(29, "hold(0, 0)", x.hold(0, 0), 1);
        due(29, "hold(10, 0)", x.hold(10, 0), BEYOND);
        due(29, "hold(-1, 0)", x.hold(-1, 0), BEYOND);
        due(29, "hold(0, 1)", x.hold(0, 1), BEYOND);
        due(29, "hold(0, -2)", x.hold(0, -2), BEYOND);
        due(29, "count(7)", x.count(7), 2);
        due(29, "hold(0, -1)", x.hold(0, -1), 1);
        due(29, "hold(0, -1)", x.hold(0, -1), 1);
        due(29, "count(7)", x.count(7), 1);
        due(29, "as(9, 0)", x.as(9, 0), 0);
    }

    private static void as() {
        SmokeHome x = new SmokeHome();
        boolean[][] under = new boolean[7][7];
        int[] above = {-1, FIRE, FIRE, PRIEST, POOR, FIRE, STOVE};
        for (int kind = 0; kind < 7; kind++) {
            for (int k = kind; k >= 0; k = above[k]) {
                under[kind][k] = true;
            }
            x.fire(kind, 0, 0);
            x.hold(kind, kind);
        }
        for (int fire = 0; fire < 7; fire++) {
            for (int kind = 0; kind < 7; kind++) {
                due(30, "as(" + fire + ", " + kind + ")", x.as(fire, kind), under[fire][kind] ? fire : KIND);
            }
        }
        due(30, "as(7, 0)", x.as(7, 0), MISSING);
        due(30, "as(7, 7)", x.as(7, 7), BEYOND);
        due(30, "as(7, -1)", x.as(7, -1), BEYOND);
        due(30, "as(10, 0)", x.as(10, 0), BEYOND);
        due(30, "as(-1, 0)", x.as(-1, 0), BEYOND);
        x.change(0, 0, BED);
        due(30, "as(0, 1)", x.as(0, STOVE), 0);
    }

    private static void sheet() {
        SmokeHome x = new SmokeHome();
        due(31, "sheet(4, 8, 1)", x.sheet(4, 8, 1), BEYOND);
        due(31, "sheet(-1, 8, -1)", x.sheet(-1, 8, -1), BEYOND);
        due(31, "sheet(0, 7, -1)", x.sheet(0, 7, -1), BEYOND);
        due(31, "sheet(0, 64, 1)", x.sheet(0, 64, 1), BEYOND);
        due(31, "sheet(0, -8, 1)", x.sheet(0, -8, 1), BEYOND);
        due(31, "sheet(0, 8, -1)", x.sheet(0, 8, -1), SIZE);
        due(31, "sheet(0, 0, -1)", x.sheet(0, 0, -1), SIZE);
        due(31, "sheet(0, 8, 41)", x.sheet(0, 8, 41), BEYOND);
        due(31, "sheet(0, 0, 41)", x.sheet(0, 0, 41), BEYOND);
        due(31, "judge(0)", x.judge(0), MISSING);
        due(31, "sheet(0, 8, 0)", x.sheet(0, 8, 0), 0);
        due(31, "judge(0)", x.judge(0), 0);
        due(31, "sheet(3, 16, 40)", x.sheet(3, 16, 40), 40);
        due(31, "write(3, 39, 5)", x.write(3, 39, 5), 1);
        due(31, "sheet(3, 32, 5)", x.sheet(3, 32, 5), 5);
        due(31, "judge(3)", x.judge(3), 0);
        due(31, "write(3, 5, 5)", x.write(3, 5, 5), BEYOND);
        x.write(3, 2, 9);
        x.write(3, 4, 9);
        due(31, "judge(3)", x.judge(3), 3);
        due(31, "sheet(3, 32, 5)", x.sheet(3, 32, 5), 5);
        due(31, "judge(3) anew", x.judge(3), 0);
        x.write(3, 0, 9);
        x.sheet(3, 8, 40);
        due(31, "judge(3) of more", x.judge(3), 26);
        due(31, "sheet(3, 0, 7)", x.sheet(3, 0, 7), 0);
        due(31, "judge(3)", x.judge(3), MISSING);
    }

    private static void write() {
        SmokeHome x = new SmokeHome();
        due(32, "write(4, 0, 0)", x.write(4, 0, 0), BEYOND);
        due(32, "write(-1, 0, 0)", x.write(-1, 0, 0), BEYOND);
        due(32, "write(0, 99, 0)", x.write(0, 99, 0), MISSING);
        x.sheet(0, 8, 3);
        due(32, "write(0, 3, 0)", x.write(0, 3, 0), BEYOND);
        due(32, "write(0, -1, 0)", x.write(0, -1, 0), BEYOND);
        int[] bits = {8, 16, 32};
        int[] told = {0x12348078, 0x12348278, 0x00000078, 0xffff0078};
        int[][] right = {{0x78, 0x78, 0x78, 0x78}, {0, 0, 0x78, 0x78}, {0, 0, 0x78, 0}};
        for (int b = 0; b < 3; b++) {
            x.sheet(1, bits[b], 1);
            x.wood(0, 0x78);
            for (int i = 0; i < 4; i++) {
                due(32, "write(1, 0, " + told[i] + ")", x.write(1, 0, told[i]), 1);
                due(32, bits[b] + " bits of " + told[i], x.judge(1), right[b][i] == 0x78 ? 0 : 1);
            }
        }
        x.wood(0, 200);
        x.sheet(1, 8, 1);
        x.write(1, 0, 200);
        due(32, "200 of 8 bits is -56", x.judge(1), 1);
        x.sheet(1, 16, 1);
        x.write(1, 0, 200);
        due(32, "200 of 16 bits", x.judge(1), 0);
    }

    private static void copy() {
        SmokeHome x = new SmokeHome();
        due(33, "copy(4, 0, 0, 0, 0)", x.copy(4, 0, 0, 0, 0), BEYOND);
        due(33, "copy(0, 0, 4, 0, 0)", x.copy(0, 0, 4, 0, 0), BEYOND);
        due(33, "copy(0, 0, -1, 0, 0)", x.copy(0, 0, -1, 0, 0), BEYOND);
        fill(x, 0, 16, 1, 2, 3, 4, 5);
        due(33, "copy(0, 0, 1, 0, -1)", x.copy(0, 0, 1, 0, -1), MISSING);
        due(33, "copy(1, 0, 0, 0, -1)", x.copy(1, 0, 0, 0, -1), MISSING);
        x.sheet(1, 8, 5);
        due(33, "copy(0, 0, 1, 0, -1)", x.copy(0, 0, 1, 0, -1), KIND);
        x.sheet(1, 16, 3);
        due(33, "copy(0, -1, 1, 0, 1)", x.copy(0, -1, 1, 0, 1), BEYOND);
        due(33, "copy(0, 0, 1, -1, 1)", x.copy(0, 0, 1, -1, 1), BEYOND);
        due(33, "copy(0, 0, 1, 0, -1)", x.copy(0, 0, 1, 0, -1), BEYOND);
        due(33, "copy(0, 3, 1, 0, 3)", x.copy(0, 3, 1, 0, 3), BEYOND);
        due(33, "copy(0, 0, 1, 1, 3)", x.copy(0, 0, 1, 1, 3), BEYOND);
        due(33, "copy(0, max, 1, 0, 1)", x.copy(0, Integer.MAX_VALUE, 1, 0, 1), BEYOND);
        due(33, "copy(0, 0, 1, max, 1)", x.copy(0, 0, 1, Integer.MAX_VALUE, 1), BEYOND);
        due(33, "copy(0, 1, 1, 1, max)", x.copy(0, 1, 1, 1, Integer.MAX_VALUE), BEYOND);
        due(33, "copy(0, 5, 1, 3, 0)", x.copy(0, 5, 1, 3, 0), 0);
        due(33, "copy(0, 6, 1, 3, 0)", x.copy(0, 6, 1, 3, 0), BEYOND);
        due(33, "copy(0, 2, 1, 0, 3)", x.copy(0, 2, 1, 0, 3), 3);
        dueSheet(x, 1, 3, 4, 5);
        dueSheet(x, 0, 1, 2, 3, 4, 5);
        due(33, "copy(0, 0, 0, 1, 4)", x.copy(0, 0, 0, 1, 4), 4);
        dueSheet(x, 0, 1, 1, 2, 3, 4);
        due(33, "copy(0, 2, 0, 0, 3)", x.copy(0, 2, 0, 0, 3), 3);
        dueSheet(x, 0, 2, 3, 4, 3, 4);
    }

    private static void dueSheet(SmokeHome x, int s, int... numbers) {
        for (int i = 0; i < numbers.length; i++) {
            x.wood(i, numbers[i]);
        }
        due(33, "judge(" + s + ") of what was copied", x.judge(s), 0);
    }

    private static void load() {
        SmokeHome x = new SmokeHome();
        x.fire(FIRE, 0, 0);
        x.fire(FIRE, 0, 0);
        x.fire(FIRE, 0, 0);
        due(34, "load(4)", x.load(4), BEYOND);
        due(34, "load(-1)", x.load(-1), BEYOND);
        due(34, "load(0)", x.load(0), MISSING);
        x.sheet(0, 8, 0);
        due(34, "load(0) of none", x.load(0), 0);
        fill(x, 0, 16, 7, 999, 0, 5);
        due(34, "load(0) of four", x.load(0), 3);
        due(34, "of(0, 3)", x.of(0, 3), 7);
        due(34, "of(1, 3)", x.of(1, 3), 999);
        due(34, "of(2, 3)", x.of(2, 3), 0);
        fill(x, 0, 16, 8, 1000, 9);
        due(34, "load(0) with too much", x.load(0), 1);
        due(34, "of(0, 3)", x.of(0, 3), 8);
        due(34, "of(2, 3)", x.of(2, 3), 0);
        fill(x, 0, 8, 9, 10, 128);
        due(34, "load(0) with -128", x.load(0), 2);
        fill(x, 0, 8, 4);
        due(34, "load(0) of one", x.load(0), 1);
        due(34, "of(0, 3)", x.of(0, 3), 4);
        due(34, "of(1, 3)", x.of(1, 3), 10);
    }

    private static void judge() {
        SmokeHome x = new SmokeHome();
        due(35, "judge(4)", x.judge(4), BEYOND);
        due(35, "judge(-1)", x.judge(-1), BEYOND);
        due(35, "judge(0)", x.judge(0), MISSING);
        x.sheet(0, 32, 40);
        due(35, "judge(0) of 40", x.judge(0), 26);
        x.sheet(0, 32, 25);
        due(35, "judge(0) of 25", x.judge(0), 0);
        x.wood(24, 1);
        due(35, "judge(0)", x.judge(0), 25);
        x.write(0, 24, 1);
        due(35, "judge(0)", x.judge(0), 0);
        x.write(0, 0, 5);
        due(35, "judge(0)", x.judge(0), 1);
        x.sheet(0, 8, 0);
        due(35, "judge(0) of none", x.judge(0), 0);
    }

    private static void images() {
        SmokeHome x = new SmokeHome();
        x.fire(FIRE, 0, 2);
        x.fire(FIRE, 2, 0);
        x.hold(3, 1);
        x.hold(9, 0);
        x.wind(1);
        x.wood(9, 6);
        x.seed(5);
        x.go(1);
        x.sheet(0, 8, 2);
        x.feed(0, 2);
        due(36, "image()", x.image(), 1);
        x.go(7);
        x.fire(BED, 9, 9);
        x.hold(3, -1);
        x.hold(4, 2);
        x.hold(9, 2);
        x.change(0, 0, JAR);
        x.wood(9, 60);
        x.wind(2);
        x.winds(2);
        x.change(2, 5, 7);
        x.change(2, 6, 7);
        x.sheet(0, 8, 3);
        x.feed(0, 2);
        x.of(9, 9);
        due(37, "undo()", x.undo(), 1);
        due(37, "count(1)", x.count(1), 2);
        dueRow(37, x, 0, FIRE, 0, 2, 48, 1, 2, 0);
        dueRow(37, x, 1, FIRE, 2, 0, 48, 1, 2, 0);
        due(37, "now(3)", x.now(3), 1);
        due(37, "as(3, 0)", x.as(3, 0), 1);
        due(37, "as(9, 0)", x.as(9, 0), 0);
        due(37, "count(7)", x.count(7), 2);
        due(37, "cell(9, 0)", x.cell(9, 0), 6);
        due(37, "wind(1)", x.wind(1), 1);
        due(37, "count(6)", x.count(6), 5);
        due(37, "write(0, 2, 1)", x.write(0, 2, 1), 1);
        due(37, "count(5)", x.count(5), 4);
        due(37, "status(-1)", x.status(-1), 1);
        x.go(3);
        due(37, "undo() again", x.undo(), 1);
        due(5, "fire anew", x.fire(BED, 9, 8), 2);
        dueRow(5, x, 2, BED, 9, 8, 50, 9, 0, 0);
        due(37, "undo() once more", x.undo(), 1);
        due(37, "of(0, 4)", x.of(0, 4), 1);
        x.go(2);
        due(36, "image() later", x.image(), 1);
        x.go(4);
        due(37, "undo() to the latest", x.undo(), 3);
        due(38, "tear()", x.tear(), 1);
        due(38, "tear()", x.tear(), 0);
        due(37, "undo() of nothing", x.undo(), NONE);
        due(37, "now(0)", x.now(0), 3);
        due(36, "image() anew", x.image(), 1);
        due(38, "tear()", x.tear(), 1);
    }

    private static void count() {
        SmokeHome x = new SmokeHome();
        x.fire(FIRE, 0, 2);
        x.fire(STOVE, 2, 0);
        x.fire(FIRE, 20, 15);
        x.hold(0, 0);
        x.hold(1, 0);
        x.hold(9, 1);
        x.feed(0, 4);
        x.seed(-9);
        x.change(1, 4, 2);
        x.change(0, 5, 6);
        x.go(1);
        due(39, "count(0)", x.count(0), 1);
        due(39, "count(1)", x.count(1), 3);
        due(39, "count(2)", x.count(2), 8);
        due(39, "count(3)", x.count(3), 0);
        due(39, "count(4)", x.count(4), 7);
        due(39, "count(5)", x.count(5), 4);
        due(39, "count(6)", x.count(6), -9);
        due(39, "count(7)", x.count(7), 3);
        due(39, "count(8)", x.count(8), BEYOND);
        due(39, "count(-1)", x.count(-1), BEYOND);
        x.change(1, 1, 12);
        x.change(1, 4, 0);
        x.change(1, 5, 4);
        x.change(1, 2, 2);
        x.change(0, 4, 0);
        x.go(1);
        due(39, "count(3)", x.count(3), 0);
        x.change(1, 4, 1);
        x.change(1, 5, 4);
        x.change(0, 4, 1);
        x.go(1);
        due(39, "count(3) crossed", x.count(3), 1);
    }

    private static void status() {
        SmokeHome x = new SmokeHome();
        due(40, "status(7)", x.status(7), BEYOND);
        due(40, "status(-2)", x.status(-2), BEYOND);
        due(40, "status(0)", x.status(0), 2);
        x.fire(7, 0, 0);
        x.odds(0, 0, 0);
        for (int i = 0; i < 9; i++) {
            x.fire(FIRE, 0, 0);
        }
        x.hold(0, 0);
        x.as(0, BED);
        x.crosses();
        x.when(0, 9);
        x.undo();
        x.as(1, 0);
        x.judge(0);
        x.load(0);
        x.load(1);
        x.sheet(0, 8, -1);
        x.sheet(0, 0, -1);
        x.image();
        int[] want = {4, 1, 1, 3, 0, 4, 2};
        for (int which = 0; which < 7; which++) {
            due(40, "status(" + which + ")", x.status(which), want[which]);
        }
        due(40, "status(-1)", x.status(-1), 15);
        x.text();
        x.seed(-1000002);
        x.count(6);
        x.seed(1);
        x.undo();
        due(40, "status(-1) behind undo", x.status(-1), 15);
    }
}
