/**
 * A town in cells with wind and woods, where the smoke of each fire goes home.
 * What each call promises stands in the document; the words in capitals are its terms.
 */
public final class SmokeHome {
    private static final int LOW = -1000001;
    private static final int BEYOND = 0;
    private static final int FULL = 1;
    private static final int KIND = 2;
    private static final int NONE = 3;
    private static final int STATE = 4;
    private static final int MISSING = 5;
    private static final int SIZE = 6;
    private static final int FINDINGS = 7;

    private static final int SIDE = 5;
    private static final int LAST_CELL = 24;
    private static final int LAST_KIND = 6;
    private static final int LAST_WIND = 4;
    private static final int LAST_SPOT = 9;
    private static final int LAST_SHEET = 3;
    private static final int FIRES = 8;
    private static final int NUMBERS = 40;
    private static final int BYTES = 120;

    private static final int MOST_WOOD = 9999;
    private static final int MOST_LOGS = 999;
    private static final int MOST_SMOKE = 999;
    private static final int MOST_WAITED = 9999;
    private static final int MOST_CROSSED = 99999;
    private static final int MOST_HOUR = 99999;
    private static final int FIRST_LOGS = 50;
    private static final int NOTHING = -1;
    private static final int ANY = -1;

    private static final int UP = 1;
    private static final int RIGHT = 2;
    private static final int DOWN = 3;
    private static final int LEFT = 4;

    private static final int OF_KIND = 0;
    private static final int OF_CHIMNEY = 1;
    private static final int OF_HOME = 2;
    private static final int OF_LOGS = 3;
    private static final int OF_AT = 4;
    private static final int OF_MUCH = 5;
    private static final int OF_WAITED = 6;
    private static final int OF_BURNS = 7;
    private static final int OF_STEPS = 8;
    private static final int OF_FAR = 9;

    private static final int LONG_AHEAD = 100;
    private static final int BEST_AHEAD = 40;

    private final Town town;
    private final Town trial;
    private final Town kept;
    private final Reader reader;
    private final Sheet[] sheets;
    private final int[] findings;
    private boolean isKept;

    public SmokeHome() {
        Kind[] types = {
            new Kind(), new Stove(), new Priest(), new Poor(), new Jar(), new Foreign(), new Bed()
        };
        town = new Town(types);
        trial = new Town(types);
        kept = new Town(types);
        reader = new Reader();
        sheets = new Sheet[LAST_SHEET + 1];
        for (int s = 0; s <= LAST_SHEET; s++) {
            sheets[s] = new Sheet();
        }
        findings = new int[FINDINGS];
        isKept = false;
    }

    // ---- cells, wind, fires

    public int wood(int cell, int v) {
        if (outside(cell, LAST_CELL) || outside(v, MOST_WOOD)) {
            return finding(BEYOND);
        }
        int was = town.woods[cell];
        town.woods[cell] = v;
        return was;
    }

    public int cell(int cell, int what) {
        if (outside(cell, LAST_CELL)) {
            return finding(BEYOND);
        }
        switch (what) {
            case 0: return town.woods[cell];
            case 1: return town.firesBuiltAt(cell);
            case 2: return town.firesSmokingAt(cell);
            case 3: return town.firesAtHomeIn(cell);
            default: return finding(BEYOND);
        }
    }

    public int wind(int v) {
        if (outside(v, LAST_WIND)) {
            return finding(BEYOND);
        }
        int was = town.blows;
        town.blows = v;
        return was;
    }

    public int fire(int kind, int chimney, int home) {
        if (outside(kind, LAST_KIND) || outside(chimney, LAST_CELL) || outside(home, LAST_CELL)) {
            return finding(BEYOND);
        }
        if (town.isFull()) {
            return finding(FULL);
        }
        return town.light(kind, chimney, home, FIRST_LOGS);
    }

    public int of(int fire, int what) {
        if (noFire(fire) || outside(what, OF_FAR)) {
            return finding(BEYOND);
        }
        Fire told = town.fires[fire];
        switch (what) {
            case OF_BURNS: return town.kindOf(told).burns(town.hour);
            case OF_STEPS: return town.kindOf(told).steps(town.hour, told.waited);
            case OF_FAR: return told.stepsFromHome();
            default: return told.value(what);
        }
    }

    public int change(int fire, int what, int v) {
        if (noFire(fire) || outside(what, OF_WAITED) || outside(v, mostOf(what))) {
            return finding(BEYOND);
        }
        int was = town.fires[fire].value(what);
        town.fires[fire].put(what, v);
        return was;
    }

    // ---- hours

    public int go(int n) {
        if (n < 1 || n > 60) {
            return finding(BEYOND);
        }
        if (town.hour > MOST_HOUR - n) {
            return finding(STATE);
        }
        town.passHours(n);
        return town.allWood();
    }

    public int now(int what) {
        switch (what) {
            case 0: return town.hour;
            case 1: return town.allWood();
            case 2: return town.allSmoke();
            case 3: return town.crossed;
            case 4: return town.allLogs();
            case 5: return town.cellsWithWood();
            case 6: return town.firesSmoking();
            default: return finding(BEYOND);
        }
    }

    // ---- what will be (nothing changes)

    public int ahead(int fire, int what, int n) {
        if (noFire(fire) || what < OF_LOGS || what > OF_WAITED || outside(n, LONG_AHEAD)) {
            return finding(BEYOND);
        }
        trial.become(town);
        trial.passHours(n);
        return trial.fires[fire].value(what);
    }

    public int grown(int cell, int n) {
        if (outside(cell, LAST_CELL) || outside(n, LONG_AHEAD)) {
            return finding(BEYOND);
        }
        trial.become(town);
        trial.passHours(n);
        return trial.woods[cell];
    }

    public int when(int cell, int v) {
        if (outside(cell, LAST_CELL) || outside(v, MOST_WOOD)) {
            return finding(BEYOND);
        }
        trial.become(town);
        if (trial.woods[cell] >= v) {
            return 0;
        }
        for (int hours = 1; hours <= LONG_AHEAD; hours++) {
            trial.passHour();
            if (trial.woods[cell] >= v) {
                return hours;
            }
        }
        return finding(NONE);
    }

    public int stuck(int fire) {
        if (noFire(fire)) {
            return finding(BEYOND);
        }
        trial.become(town);
        for (int hours = 1; hours <= LONG_AHEAD; hours++) {
            trial.passHour();
            if (trial.fires[fire].waited > town.fires[fire].waited) {
                return hours;
            }
        }
        return finding(NONE);
    }

    public int crosses() {
        trial.become(town);
        for (int hours = 1; hours <= LONG_AHEAD; hours++) {
            trial.passHour();
            if (trial.crossed > town.crossed) {
                return hours;
            }
        }
        return finding(NONE);
    }

    // ---- what is best

    public int windFor(int n) {
        if (outside(n, BEST_AHEAD)) {
            return finding(BEYOND);
        }
        int best = 0;
        int most = -1;
        for (int v = 0; v <= LAST_WIND; v++) {
            trial.become(town);
            trial.blows = v;
            trial.passHours(n);
            int grew = trial.allWood();
            if (grew > most) {
                most = grew;
                best = v;
            }
        }
        return best;
    }

    public int homeFor(int fire, int cell, int n) {
        if (noFire(fire) || outside(cell, LAST_CELL) || outside(n, BEST_AHEAD)) {
            return finding(BEYOND);
        }
        int best = 0;
        int most = -1;
        for (int home = 0; home <= LAST_CELL; home++) {
            tryWith(fire, OF_HOME, home);
            trial.passHours(n);
            if (trial.woods[cell] > most) {
                most = trial.woods[cell];
                best = home;
            }
        }
        return best;
    }

    public int build(int fire, int n) {
        if (noFire(fire) || outside(n, BEST_AHEAD)) {
            return finding(BEYOND);
        }
        int best = 0;
        int least = MOST_WAITED + 1;
        for (int chimney = 0; chimney <= LAST_CELL; chimney++) {
            tryWith(fire, OF_CHIMNEY, chimney);
            trial.fires[fire].at = chimney;
            trial.passHours(n);
            if (trial.fires[fire].waited < least) {
                least = trial.fires[fire].waited;
                best = chimney;
            }
        }
        return best;
    }

    public int kindFor(int fire, int n) {
        if (noFire(fire) || outside(n, BEST_AHEAD)) {
            return finding(BEYOND);
        }
        int best = 0;
        int most = -1;
        for (int kind = 0; kind <= LAST_KIND; kind++) {
            tryWith(fire, OF_KIND, kind);
            trial.passHours(n);
            int grew = trial.allWood();
            if (grew > most) {
                most = grew;
                best = kind;
            }
        }
        return best;
    }

    public int logsFor(int fire, int cell, int v, int n) {
        if (noFire(fire) || outside(cell, LAST_CELL) || outside(v, MOST_WOOD)
                || outside(n, BEST_AHEAD)) {
            return finding(BEYOND);
        }
        for (int logs = 0; logs <= 200; logs++) {
            tryWith(fire, OF_LOGS, logs);
            trial.passHours(n);
            if (trial.woods[cell] >= v) {
                return logs;
            }
            // Some are left: it never lacked any, and more of them change nothing.
            if (trial.fires[fire].logs > 0) {
                break;
            }
        }
        return finding(NONE);
    }

    public int quench(int n) {
        if (outside(n, 20)) {
            return finding(BEYOND);
        }
        int all = (1 << town.lit) - 1;
        for (int size = 0; size < town.lit; size++) {
            for (int set = 0; set <= all; set++) {
                if (Integer.bitCount(set) == size && noneCrossWithout(set, n)) {
                    return set;
                }
            }
        }
        return all;
    }

    private boolean noneCrossWithout(int set, int n) {
        trial.become(town);
        for (int i = 0; i < trial.lit; i++) {
            if ((set >> i & 1) == 1) {
                trial.fires[i].logs = 0;
                trial.fires[i].much = 0;
            }
        }
        for (int hours = 0; hours < n && trial.crossed == town.crossed; hours++) {
            trial.passHour();
        }
        return trial.crossed == town.crossed;
    }

    // ---- whence it was

    public int fits(int s, int fire) {
        return followers(s, fire, OF_HOME);
    }

    public int kinds(int s, int fire) {
        return followers(s, fire, OF_KIND);
    }

    private int followers(int s, int fire, int what) {
        if (outside(s, LAST_SHEET)) {
            return finding(BEYOND);
        }
        if (sheets[s].isMissing()) {
            return finding(MISSING);
        }
        if (noFire(fire)) {
            return finding(BEYOND);
        }
        int set = 0;
        for (int v = 0; v <= mostOf(what); v++) {
            tryWith(fire, what, v);
            boolean follows = sheets[s].allows(0, trial.fires[fire].at);
            for (int i = 1; i < sheets[s].size && follows; i++) {
                trial.passHour();
                follows = sheets[s].allows(i, trial.fires[fire].at);
            }
            set |= follows ? 1 << v : 0;
        }
        return set;
    }

    // ---- winds

    public int winds(int n) {
        if (n < 1 || n > 20) {
            return finding(BEYOND);
        }
        if (town.hour > MOST_HOUR - n) {
            return finding(STATE);
        }
        for (int i = 0; i < n; i++) {
            town.blows = town.draw() % (LAST_WIND + 1);
            town.passHour();
        }
        return town.allWood();
    }

    public long odds(int fire, int n, int what) {
        if (noFire(fire) || outside(n, 26) || outside(what, 1)) {
            return finding(BEYOND);
        }
        if (town.fires[fire].chimney == town.fires[fire].home) {
            return 1;
        }
        // Four winds of five let the first STEP be; powers of 4 and 5 share no divisor.
        long part = what == 0 ? LAST_WIND : LAST_WIND + 1;
        long told = 1;
        for (int i = 0; i < n; i++) {
            told *= part;
        }
        return told;
    }

    public int seed(int v) {
        int was = town.z;
        town.z = v;
        return was;
    }

    // ---- texts

    public int feed(int bytes, int n) {
        if (n < 1 || n > 4) {
            return finding(BEYOND);
        }
        if (reader.size > BYTES - n) {
            return finding(FULL);
        }
        for (int i = n - 1; i >= 0; i--) {
            reader.put(bytes >>> (8 * i));
        }
        return reader.size;
    }

    public int wipe() {
        int had = reader.size;
        reader.size = 0;
        return had;
    }

    public int text() {
        // Read into the trial, so that a FAULT leaves the town as it was.
        trial.become(town);
        int items = reader.readInto(trial);
        if (items >= 0) {
            town.become(trial);
        }
        reader.size = 0;
        return items;
    }

    // ---- spots, sheets

    public int hold(int spot, int fire) {
        if (outside(spot, LAST_SPOT) || (fire != NOTHING && noFire(fire))) {
            return finding(BEYOND);
        }
        town.spots[spot] = fire;
        return 1;
    }

    public int as(int spot, int kind) {
        if (outside(spot, LAST_SPOT) || outside(kind, LAST_KIND)) {
            return finding(BEYOND);
        }
        int fire = town.spots[spot];
        if (noFire(fire)) {
            return finding(MISSING);
        }
        if (!town.kindOf(town.fires[fire]).isUnder(kind)) {
            return finding(KIND);
        }
        return fire;
    }

    public int sheet(int s, int bits, int n) {
        if (outside(s, LAST_SHEET) || (bits != 0 && bits != 8 && bits != 16 && bits != 32)) {
            return finding(BEYOND);
        }
        if (n < 0) {
            return finding(SIZE);
        }
        if (n > NUMBERS) {
            return finding(BEYOND);
        }
        sheets[s].begin(bits, n);
        return sheets[s].size;
    }

    public int write(int s, int i, int v) {
        if (outside(s, LAST_SHEET)) {
            return finding(BEYOND);
        }
        if (sheets[s].isMissing()) {
            return finding(MISSING);
        }
        if (outside(i, sheets[s].size - 1)) {
            return finding(BEYOND);
        }
        sheets[s].put(i, v);
        return 1;
    }

    public int copy(int s, int from, int t, int to, int n) {
        if (outside(s, LAST_SHEET) || outside(t, LAST_SHEET)) {
            return finding(BEYOND);
        }
        if (sheets[s].isMissing() || sheets[t].isMissing()) {
            return finding(MISSING);
        }
        if (sheets[s].bits != sheets[t].bits) {
            return finding(KIND);
        }
        if (!sheets[s].has(from, n) || !sheets[t].has(to, n)) {
            return finding(BEYOND);
        }
        System.arraycopy(sheets[s].numbers, from, sheets[t].numbers, to, n);
        return n;
    }

    public int load(int s) {
        if (outside(s, LAST_SHEET)) {
            return finding(BEYOND);
        }
        if (sheets[s].isMissing()) {
            return finding(MISSING);
        }
        int came = 0;
        while (came < sheets[s].size && came < town.lit
                && !outside(sheets[s].numbers[came], MOST_LOGS)) {
            town.fires[came].logs = sheets[s].numbers[came];
            came++;
        }
        return came;
    }

    public int judge(int s) {
        if (outside(s, LAST_SHEET)) {
            return finding(BEYOND);
        }
        if (sheets[s].isMissing()) {
            return finding(MISSING);
        }
        for (int i = 0; i < sheets[s].size; i++) {
            if (i > LAST_CELL || sheets[s].numbers[i] != town.woods[i]) {
                return 1 + i;
            }
        }
        return 0;
    }

    // ---- images

    public int image() {
        kept.become(town);
        isKept = true;
        return 1;
    }

    public int undo() {
        if (!isKept) {
            return finding(NONE);
        }
        town.become(kept);
        return town.hour;
    }

    public int tear() {
        int was = isKept ? 1 : 0;
        isKept = false;
        return was;
    }

    public int count(int what) {
        switch (what) {
            case 0: return town.hour;
            case 1: return town.lit;
            case 2: return town.allSmoke();
            case 3: return town.crossed;
            case 4: return town.allWood();
            case 5: return reader.size;
            case 6: return town.z;
            case 7: return town.spotsThatHold();
            default: return finding(BEYOND);
        }
    }

    public int status(int which) {
        if (which == -1) {
            int all = 0;
            for (int i = 0; i < FINDINGS; i++) {
                all += findings[i];
            }
            return all;
        }
        if (outside(which, FINDINGS - 1)) {
            return finding(BEYOND);
        }
        return findings[which];
    }

    // ---- what the calls share

    private int finding(int which) {
        findings[which]++;
        return LOW - which;
    }

    private static boolean outside(int v, int most) {
        return v < 0 || v > most;
    }

    private boolean noFire(int fire) {
        return outside(fire, town.lit - 1);
    }

    private static int mostOf(int what) {
        switch (what) {
            case OF_KIND: return LAST_KIND;
            case OF_LOGS: return MOST_LOGS;
            case OF_MUCH: return MOST_SMOKE;
            case OF_WAITED: return MOST_WAITED;
            default: return LAST_CELL;
        }
    }

    private void tryWith(int fire, int what, int v) {
        trial.become(town);
        trial.fires[fire].put(what, v);
    }

    /** FIRE, and what the other KINDS do unless they tell otherwise. */
    private static class Kind {
        int burns(int hour) {
            return 2;
        }

        int steps(int hour, int waited) {
            return 1;
        }

        boolean bears(int much) {
            return false;
        }

        boolean goesSidewaysFirst() {
            return false;
        }

        boolean isUnder(int kind) {
            return kind == 0;
        }

        String word() {
            return "fire";
        }
    }

    private static class Stove extends Kind {
        int burns(int hour) {
            return super.burns(hour) + 3;
        }

        int steps(int hour, int waited) {
            return super.steps(hour, waited) + 1;
        }

        boolean isUnder(int kind) {
            return kind == 1 || super.isUnder(kind);
        }

        String word() {
            return "stove";
        }
    }

    private static class Priest extends Kind {
        int burns(int hour) {
            return super.burns(hour) / 2;
        }

        int steps(int hour, int waited) {
            return hour % 3 == 0 ? super.steps(hour, waited) : 0;
        }

        boolean isUnder(int kind) {
            return kind == 2 || super.isUnder(kind);
        }

        String word() {
            return "priest";
        }
    }

    private static class Poor extends Priest {
        int burns(int hour) {
            return hour % 2 == 0 ? super.burns(hour) + 2 : super.burns(hour);
        }

        int steps(int hour, int waited) {
            return 1;
        }

        boolean goesSidewaysFirst() {
            return true;
        }

        boolean isUnder(int kind) {
            return kind == 3 || super.isUnder(kind);
        }

        String word() {
            return "poor";
        }
    }

    private static final class Jar extends Poor {
        int steps(int hour, int waited) {
            return waited >= 5 ? super.steps(hour, waited) + 2 : super.steps(hour, waited);
        }

        boolean bears(int much) {
            return true;
        }

        boolean isUnder(int kind) {
            return kind == 4 || super.isUnder(kind);
        }

        String word() {
            return "jar";
        }
    }

    private static final class Foreign extends Kind {
        boolean bears(int much) {
            return much > 20;
        }

        boolean isUnder(int kind) {
            return kind == 5 || super.isUnder(kind);
        }

        String word() {
            return "foreign";
        }
    }

    private static final class Bed extends Stove {
        int burns(int hour) {
            return 2 * super.burns(hour);
        }

        int steps(int hour, int waited) {
            return super.steps(hour, waited) + 1;
        }

        boolean isUnder(int kind) {
            return kind == 6 || super.isUnder(kind);
        }

        String word() {
            return "bed";
        }
    }

    private static final class Fire {
        int kind;
        int chimney;
        int home;
        int logs;
        int at;
        int much;
        int waited;
        /** Where its SMOKE was as the HOUR began: needed within an HOUR alone, so not copied. */
        int began;

        void become(Fire other) {
            kind = other.kind;
            chimney = other.chimney;
            home = other.home;
            logs = other.logs;
            at = other.at;
            much = other.much;
            waited = other.waited;
        }

        int value(int what) {
            switch (what) {
                case OF_KIND: return kind;
                case OF_CHIMNEY: return chimney;
                case OF_HOME: return home;
                case OF_LOGS: return logs;
                case OF_AT: return at;
                case OF_MUCH: return much;
                default: return waited;
            }
        }

        void put(int what, int v) {
            switch (what) {
                case OF_KIND: kind = v; break;
                case OF_CHIMNEY: chimney = v; break;
                case OF_HOME: home = v; break;
                case OF_LOGS: logs = v; break;
                case OF_AT: at = v; break;
                case OF_MUCH: much = v; break;
                default: waited = v; break;
            }
        }

        int stepsFromHome() {
            return Math.abs(at / SIDE - home / SIDE) + Math.abs(at % SIDE - home % SIDE);
        }

        void burn(int most) {
            int burnt = Math.min(most, logs);
            logs -= burnt;
            much = Math.min(much + burnt, MOST_SMOKE);
        }

        int nextWay(boolean sidewaysFirst) {
            boolean sameRow = at / SIDE == home / SIDE;
            boolean sameColumn = at % SIDE == home % SIDE;
            if (sameRow || (sidewaysFirst && !sameColumn)) {
                return at % SIDE < home % SIDE ? RIGHT : LEFT;
            }
            return at / SIDE < home / SIDE ? DOWN : UP;
        }

        void step(int way) {
            switch (way) {
                case UP: at -= SIDE; break;
                case RIGHT: at += 1; break;
                case DOWN: at += SIDE; break;
                default: at -= 1; break;
            }
        }

        boolean crossesWith(Fire other) {
            return at == other.at && much > 0 && other.much > 0
                    && (at != began || other.at != other.began);
        }

        void exchangeWith(Fire other) {
            int given = much / 4;
            int taken = other.much / 4;
            much += taken - given;
            other.much += given - taken;
        }
    }

    /** All that an image keeps. */
    private static final class Town {
        final Kind[] types;
        final int[] woods;
        final Fire[] fires;
        final int[] spots;
        int lit;
        int blows;
        int crossed;
        int hour;
        int z;

        Town(Kind[] types) {
            this.types = types;
            woods = new int[LAST_CELL + 1];
            fires = new Fire[FIRES];
            for (int i = 0; i < FIRES; i++) {
                fires[i] = new Fire();
            }
            spots = new int[LAST_SPOT + 1];
            for (int i = 0; i <= LAST_SPOT; i++) {
                spots[i] = NOTHING;
            }
            z = 1;
        }

        void become(Town other) {
            System.arraycopy(other.woods, 0, woods, 0, LAST_CELL + 1);
            System.arraycopy(other.spots, 0, spots, 0, LAST_SPOT + 1);
            for (int i = 0; i < other.lit; i++) {
                fires[i].become(other.fires[i]);
            }
            lit = other.lit;
            blows = other.blows;
            crossed = other.crossed;
            hour = other.hour;
            z = other.z;
        }

        boolean isFull() {
            return lit >= FIRES;
        }

        int light(int kind, int chimney, int home, int logs) {
            Fire lighted = fires[lit];
            lighted.kind = kind;
            lighted.chimney = chimney;
            lighted.home = home;
            lighted.logs = logs;
            lighted.at = chimney;
            lighted.much = 0;
            lighted.waited = 0;
            lit++;
            return lit - 1;
        }

        Kind kindOf(Fire fire) {
            return types[fire.kind];
        }

        int draw() {
            z = z * 1103515245 + 12345;
            return z >>> 8;
        }

        void passHours(int n) {
            for (int i = 0; i < n; i++) {
                passHour();
            }
        }

        void passHour() {
            burnFires();
            moveSmokes();
            crossSmokes();
            bringHome();
            hour = Math.min(hour + 1, MOST_HOUR);
        }

        private void burnFires() {
            for (int i = 0; i < lit; i++) {
                Fire fire = fires[i];
                if (fire.at == fire.chimney && fire.chimney != fire.home) {
                    fire.burn(kindOf(fire).burns(hour));
                }
            }
        }

        private void moveSmokes() {
            for (int i = 0; i < lit; i++) {
                Fire fire = fires[i];
                fire.began = fire.at;
                if (fire.much > 0 && fire.at != fire.home) {
                    moveSmoke(fire, kindOf(fire).steps(hour, fire.waited));
                }
            }
        }

        private void moveSmoke(Fire fire, int steps) {
            Kind kind = kindOf(fire);
            for (int i = 0; i < steps && fire.at != fire.home; i++) {
                int way = fire.nextWay(kind.goesSidewaysFirst());
                if (blowsAgainst(way) && !kind.bears(fire.much)) {
                    fire.waited = Math.min(fire.waited + 1, MOST_WAITED);
                    return;
                }
                fire.step(way);
            }
        }

        private boolean blowsAgainst(int way) {
            return blows == (way <= RIGHT ? way + 2 : way - 2);
        }

        private void crossSmokes() {
            for (int a = 0; a < lit; a++) {
                for (int b = a + 1; b < lit; b++) {
                    if (fires[a].crossesWith(fires[b])) {
                        fires[a].exchangeWith(fires[b]);
                        crossed = Math.min(crossed + 1, MOST_CROSSED);
                    }
                }
            }
        }

        private void bringHome() {
            for (int i = 0; i < lit; i++) {
                Fire fire = fires[i];
                if (fire.at == fire.home) {
                    woods[fire.home] = Math.min(woods[fire.home] + fire.much, MOST_WOOD);
                    fire.much = 0;
                    fire.at = fire.chimney;
                }
            }
        }

        int allWood() {
            int all = 0;
            for (int i = 0; i <= LAST_CELL; i++) {
                all += woods[i];
            }
            return all;
        }

        int allSmoke() {
            int all = 0;
            for (int i = 0; i < lit; i++) {
                all += fires[i].much;
            }
            return all;
        }

        int allLogs() {
            int all = 0;
            for (int i = 0; i < lit; i++) {
                all += fires[i].logs;
            }
            return all;
        }

        int cellsWithWood() {
            int set = 0;
            for (int i = 0; i <= LAST_CELL; i++) {
                set |= woods[i] > 0 ? 1 << i : 0;
            }
            return set;
        }

        int firesSmoking() {
            int set = 0;
            for (int i = 0; i < lit; i++) {
                set |= fires[i].much > 0 ? 1 << i : 0;
            }
            return set;
        }

        int firesSmokingAt(int cell) {
            int set = 0;
            for (int i = 0; i < lit; i++) {
                set |= fires[i].much > 0 && fires[i].at == cell ? 1 << i : 0;
            }
            return set;
        }

        int firesBuiltAt(int cell) {
            int set = 0;
            for (int i = 0; i < lit; i++) {
                set |= fires[i].chimney == cell ? 1 << i : 0;
            }
            return set;
        }

        int firesAtHomeIn(int cell) {
            int set = 0;
            for (int i = 0; i < lit; i++) {
                set |= fires[i].home == cell ? 1 << i : 0;
            }
            return set;
        }

        int spotsThatHold() {
            int held = 0;
            for (int i = 0; i <= LAST_SPOT; i++) {
                held += spots[i] != NOTHING ? 1 : 0;
            }
            return held;
        }
    }

    private static final class Sheet {
        final int[] numbers;
        int bits;
        int size;

        Sheet() {
            numbers = new int[NUMBERS];
        }

        boolean isMissing() {
            return bits == 0;
        }

        boolean has(int from, int n) {
            return from >= 0 && n >= 0 && n <= size && from <= size - n;
        }

        boolean allows(int i, int cell) {
            return i >= size || numbers[i] == ANY || numbers[i] == cell;
        }

        void begin(int bits, int n) {
            this.bits = bits;
            size = bits == 0 ? 0 : n;
            for (int i = 0; i < NUMBERS; i++) {
                numbers[i] = 0;
            }
        }

        void put(int i, int v) {
            switch (bits) {
                case 8: numbers[i] = (byte) v; break;
                case 16: numbers[i] = (short) v; break;
                default: numbers[i] = v; break;
            }
        }
    }

    /** THE TAPE, and the reading of a TEXT from it. */
    private static final class Reader {
        private static final int END = 0;
        private static final int WORD = 1;
        private static final int NUMBER = 2;
        private static final int SIGN = 3;
        private static final int STRAY = 4;
        private static final int MOST_NUMBER = 9999;

        final byte[] tape;
        int size;
        private int token;
        private int start;
        private int next;
        private int number;

        Reader() {
            tape = new byte[BYTES];
        }

        void put(int lowest) {
            tape[size] = (byte) lowest;
            size++;
        }

        /** How many ITEMS, or -1 less the FAULT; with a FAULT the town is of no use any more. */
        int readInto(Town town) {
            next = 0;
            takeToken();
            for (int items = 1; items <= BYTES && readItem(town); items++) {
                if (token == END) {
                    return items;
                }
                if (token != SIGN) {
                    break;
                }
                takeToken();
            }
            return -1 - start;
        }

        private boolean readItem(Town town) {
            if (isWord("wind")) {
                return readWind(town);
            }
            if (isWord("wood")) {
                return readWood(town);
            }
            int kind = kindTold(town);
            if (kind == NOTHING || town.isFull()) {
                return false;
            }
            takeToken();
            int chimney = takePart("at", LAST_CELL, 0);
            if (chimney == NOTHING) {
                return false;
            }
            int home = takePart("home", LAST_CELL, chimney);
            if (home == NOTHING) {
                return false;
            }
            int logs = takePart("logs", MOST_LOGS, FIRST_LOGS);
            if (logs == NOTHING) {
                return false;
            }
            town.light(kind, chimney, home, logs);
            return true;
        }

        private int kindTold(Town town) {
            for (int kind = 0; kind <= LAST_KIND; kind++) {
                if (isWord(town.types[kind].word())) {
                    return kind;
                }
            }
            return NOTHING;
        }

        private boolean readWind(Town town) {
            takeToken();
            int v = takeNumber(LAST_WIND);
            if (v == NOTHING) {
                return false;
            }
            town.blows = v;
            return true;
        }

        private boolean readWood(Town town) {
            takeToken();
            int cell = takeNumber(LAST_CELL);
            if (cell == NOTHING) {
                return false;
            }
            int v = takeNumber(MOST_WOOD);
            if (v == NOTHING) {
                return false;
            }
            town.woods[cell] = v;
            return true;
        }

        private int takePart(String word, int most, int without) {
            if (!isWord(word)) {
                return without;
            }
            takeToken();
            return takeNumber(most);
        }

        private int takeNumber(int most) {
            if (token != NUMBER || number > most) {
                return NOTHING;
            }
            int told = number;
            takeToken();
            return told;
        }

        private boolean isWord(String word) {
            if (token != WORD || next - start != word.length()) {
                return false;
            }
            for (int i = 0; i < word.length(); i++) {
                if (tape[start + i] != word.charAt(i)) {
                    return false;
                }
            }
            return true;
        }

        private void takeToken() {
            while (next < size && tape[next] == ' ') {
                next++;
            }
            start = next;
            number = 0;
            token = next < size ? tokenOf(tape[next]) : END;
            while (next < size && tokenOf(tape[next]) == token
                    && (token == WORD || token == NUMBER || next == start)) {
                if (token == NUMBER) {
                    // Held just above the most, so that no long row of digits wraps around.
                    number = Math.min(10 * number + tape[next] - '0', MOST_NUMBER + 1);
                }
                next++;
            }
        }

        private static int tokenOf(int b) {
            if (b >= 'a' && b <= 'z') {
                return WORD;
            }
            if (b >= '0' && b <= '9') {
                return NUMBER;
            }
            return b == ';' ? SIGN : STRAY;
        }
    }
}
