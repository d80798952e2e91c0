/**
 * The document's bounds of the tape, texts, spots, sheets and counts: just inside each, at it, and just
 * beyond it. That a call beyond its arguments' bounds is refused is in SmokeHomeFindings.
 */
public final class SmokeHomeBoundsOfTexts extends Checks {
    private static final String[] WORDS = {"fire", "stove", "priest", "poor", "jar", "foreign", "bed"};
    private static final int MAX = Integer.MAX_VALUE;
    private static final int MIN = Integer.MIN_VALUE;

    public static void main(String[] args) {
        tapeAtItsMost();
        bytesOfANumber();
        bytesOfTokens();
        otherWords();
        beginsOfAText();
        numbers();
        firstValues();
        ninthFire();
        endsTooEarly();
        longestTexts();
        emptyTape();
        spots();
        numbersOfBits();
        sheetsOfAllSizes();
        missing();
        copies();
        loads();
        judges();
        whenceItWas();
        behindEachHour();
        counts();
        finish();
    }

    // ---- THE TAPE

    private static SmokeHome withTape(int bytes) {
        SmokeHome x = new SmokeHome();
        for (int i = 1; i <= bytes; i++) {
            due(26, "feed(32, 1)", x.feed(' ', 1), i);
        }
        return x;
    }

    private static void tapeAtItsMost() {
        for (int n = 1; n <= 4; n++) {
            for (int bytes : new int[] {0, 1, 116, 117, 118, 119, 120}) {
                SmokeHome x = withTape(bytes);
                boolean fits = bytes + n <= 120;
                due(26, "feed(0, " + n + ") behind " + bytes, x.feed(0, n), fits ? bytes + n : FULL);
                due(39, "count(5) behind " + bytes, x.count(5), fits ? bytes + n : bytes);
                due(27, "wipe() behind " + bytes, x.wipe(), fits ? bytes + n : bytes);
                due(27, "wipe() of none", x.wipe(), 0);
                due(26, "feed(0, " + n + ") behind wipe()", x.feed(0, n), n);
            }
        }
    }

    private static void bytesOfANumber() {
        int[][] rows = {{0x40404062, 1, 0x40404065, 1, 0x40404064, 1}, {0x40406265, 2, 0x40404064, 1},
            {0x40626564, 3}, {0x20626564, 4}, {0x62656420, 4}, {0x62, 1, 0x6564, 2}, {0xff62, 1, 0xffff6564, 2},
            {0x80626564, 3}};
        for (int[] r : rows) {
            SmokeHome x = new SmokeHome();
            for (int i = 0; i < r.length; i += 2) {
                x.feed(r[i], r[i + 1]);
            }
            due(28, "text() of bed", x.text(), 1);
            due(28, "its KIND", x.of(0, 0), BED);
        }
        int[][] others = {{0x40626564, 4, -1}, {0x64656200, 3, -1}, {0x62656480, 4, -4}, {-1, 1, -1},
            {0x80626564, 4, -1}, {0x62656400, 4, -4}, {0x00626564, 4, -1}};
        for (int[] r : others) {
            SmokeHome x = new SmokeHome();
            x.feed(r[0], r[1]);
            due(28, "text() of " + Integer.toHexString(r[0]), x.text(), r[2]);
            due(39, "count(1)", x.count(1), 0);
        }
    }

    // ---- TOKENS

    private static int textOf(String text) {
        SmokeHome x = new SmokeHome();
        type(x, text);
        return x.text();
    }

    private static void bytesOfTokens() {
        for (int b = 0; b < 256; b++) {
            boolean letter = b >= 97 && b <= 122;
            boolean digit = b >= 48 && b <= 57;
            boolean sign = b == 59;
            boolean blank = b == 32;
            char c = (char) b;
            due(28, "byte " + b + " alone", textOf("" + c), blank ? -2 : -1);
            due(28, "byte " + b + " before a WORD", textOf(c + "bed"), blank ? 1 : -1);
            due(28, "byte " + b + " behind a WORD", textOf("bed" + c), blank ? 1 : letter ? -1 : sign ? -5 : -4);
            due(28, "byte " + b + " behind a blank", textOf("bed " + c), blank ? 1 : sign ? -6 : -5);
            due(28, "byte " + b + " behind a NUMBER", textOf("wind 0" + c),
                    blank ? 1 : digit ? (b <= '4' ? 1 : -6) : sign ? -8 : -7);
            due(28, "byte " + b + " before a NUMBER", textOf("wind " + c + "1"),
                    blank ? 1 : digit ? (b == '0' ? 1 : -6) : -6);
            due(28, "byte " + b + " behind an ITEM", textOf("bed;bed" + c), blank ? 2 : letter ? -5 : sign ? -9 : -8);
            due(28, "byte " + b + " within a WORD", textOf("b" + c + "d"), b == 'e' ? 1 : -1);
        }
    }

    /** A WORD is another one if one letter of it is, or is left out, or is one too much. */
    private static void otherWords() {
        String[] texts = {"fire", "stove", "priest", "poor", "jar", "foreign", "bed", "wind 1", "wood 1 1"};
        for (String text : texts) {
            String word = text.replaceAll("[ 0-9]", "");
            String behind = text.substring(word.length());
            due(28, "text() of " + text, textOf(text), 1);
            for (int i = 0; i < word.length(); i++) {
                String begin = word.substring(0, i);
                String end = word.substring(i + 1) + behind;
                String call = "text() of " + text + " but for letter " + i;
                due(28, call, textOf(begin + "x" + end), -1);
                due(28, call + ", left out", textOf(begin + end), -1);
                due(28, call + ", twice", textOf(begin + word.charAt(i) + word.charAt(i) + end), -1);
                due(28, call + ", a capital", textOf(begin + (char) (word.charAt(i) - 32) + end), -1);
            }
        }
        for (String part : new String[] {"at", "home", "logs"}) {
            due(28, "text() of bed " + part, textOf("bed " + part + " 3"), 1);
            for (int i = 0; i < part.length(); i++) {
                String other = part.substring(0, i) + "x" + part.substring(i + 1);
                due(28, "text() of bed " + other, textOf("bed " + other + " 3"), -5);
                String less = part.substring(0, i) + part.substring(i + 1);
                due(28, "text() of bed " + less, textOf("bed " + less + " 3"), -5);
            }
            due(28, "text() of " + part, textOf(part + " 3"), -1);
            due(28, "text() of wind " + part, textOf("wind " + part + " 3"), -6);
            due(28, "text() of bed " + part + " bed", textOf("bed " + part + " bed"), -6 - part.length());
            due(28, "text() of " + part + " twice", textOf("bed " + part + " 3 " + part + " 3"), -8 - part.length());
        }
        String[][] orders = {{"home 3", "at 3"}, {"logs 3", "home 3"}, {"logs 3", "at 3"}};
        for (String[] o : orders) {
            due(28, "text() of bed " + o[0] + " " + o[1], textOf("bed " + o[0] + " " + o[1]), -6 - o[0].length());
            due(28, "text() of bed " + o[1] + " " + o[0], textOf("bed " + o[1] + " " + o[0]), 1);
        }
    }

    private static void beginsOfAText() {
        String text = "fire at 5 home 7 logs 9;wind 3;wood 1 20;bed ";
        int[] due = {
            -1, -1, -1, -1, 1, 1, -6, -8, -9, 1, 1, -11, -11, -11, -15, -16, 1, 1, -18, -18, -18, -22, -23, 1,
            -25, -25, -25, -25, -29, -30, 2, -32, -32, -32, -32, -36, -37, -38, -39, 3, 3, -42, -42, -42, 4, 4};
        for (int n = 0; n <= text.length(); n++) {
            due(28, "text() of '" + text.substring(0, n) + "'", textOf(text.substring(0, n)), due[n]);
        }
        due(28, "how many begins there are", due.length, text.length() + 1);
        String close = "jar at24home0logs999;wind4;wood24 9999";
        due(28, "text() of '" + close + "'", textOf(close), 3);
        due(28, "text() of it, a blank in a WORD", textOf("ja r at24"), -1);
        due(28, "text() of it, a blank in a NUMBER", textOf("jar at 2 4"), -10);
        due(28, "text() of it, WORDS together", textOf("jarat24"), -1);
        due(28, "text() of it, NUMBERS together", textOf("wood249999"), -5);
    }

    private static void numbers() {
        Object[][] most = {{"bed at ", 24}, {"bed home ", 24}, {"bed logs ", 999}, {"wind ", 4}, {"wood ", 24},
            {"wood 24 ", 9999}, {"bed at 24 home ", 24}, {"bed home 0 logs ", 999}, {"bed at 0 logs ", 999}};
        for (Object[] row : most) {
            String before = (String) row[0];
            int bound = (Integer) row[1];
            String behind = before.equals("wood ") ? " 7" : "";
            for (int v : new int[] {0, 1, bound - 1, bound}) {
                due(28, "text() of " + before + v, textOf(before + v + behind), 1);
            }
            for (String zeros : new String[] {"0", "000000000000000000000000000000"}) {
                due(28, "text() of " + before + zeros + bound, textOf(before + zeros + bound + behind), 1);
            }
            String[] beyond = {"" + (bound + 1), "10000", "99999", "2147483647", "2147483648", "4294967295",
                "4294967296", "4294967297", "9223372036854775808", "18446744073709551616", "18446744073709551617",
                "00000000000000000000" + (bound + 1)};
            for (String v : beyond) {
                due(28, "text() of " + before + v, textOf(before + v + behind), -1 - before.length());
            }
            due(28, "text() of " + before + "-1", textOf(before + "-1" + behind), -1 - before.length());
            due(28, "text() of " + before + "x", textOf(before + "x" + behind), -1 - before.length());
            due(28, "text() of " + before + ";", textOf(before + ";" + behind), -1 - before.length());
            due(28, "text() of " + before, textOf(before), -1 - before.length());
        }
        SmokeHome x = new SmokeHome();
        dueText(x, "wood 24 9999;wood 0 0009998;wood 23 1", 3);
        due(28, "cell(24, 0)", x.cell(24, 0), 9999);
        due(28, "cell(0, 0)", x.cell(0, 0), 9998);
        due(28, "cell(23, 0)", x.cell(23, 0), 1);
        dueText(x, "wood 24 0;wind 0;wind 4", 3);
        due(28, "cell(24, 0)", x.cell(24, 0), 0);
        due(28, "wind(4)", x.wind(4), 4);
        dueText(x, "wind 4;wind 0", 2);
        due(28, "wind(0)", x.wind(0), 0);
    }

    /** What an ITEM doesn't tell is as at first; a HOME that it doesn't tell is its CHIMNEY. */
    private static void firstValues() {
        for (int kind = 0; kind < 7; kind++) {
            SmokeHome x = new SmokeHome();
            dueText(x, WORDS[kind], 1);
            dueText(x, WORDS[kind] + " at 24", 1);
            dueText(x, WORDS[kind] + " home 24", 1);
            dueText(x, WORDS[kind] + " logs 999", 1);
            dueText(x, WORDS[kind] + " at 1 home 23", 1);
            dueText(x, WORDS[kind] + " at 23 logs 0", 1);
            dueText(x, WORDS[kind] + " home 1 logs 998", 1);
            dueText(x, WORDS[kind] + " at 0 home 0 logs 1", 1);
            int[][] rows = {{0, 0, 50}, {24, 24, 50}, {0, 24, 50}, {0, 0, 999}, {1, 23, 50}, {23, 23, 0}, {0, 1, 998},
                {0, 0, 1}};
            for (int i = 0; i < 8; i++) {
                dueRow(28, x, i, kind, rows[i][0], rows[i][1], rows[i][2], rows[i][0], 0, 0);
            }
            dueText(x, WORDS[kind], -1);
            dueText(x, "  " + WORDS[kind] + " at 25", -3);
        }
    }

    private static void ninthFire() {
        String[] more = {"fire", "jar at 3", "bed logs 1000", "poor;;", "stove home"};
        for (int lit = 0; lit <= 8; lit++) {
            StringBuilder text = new StringBuilder("wood 7 7");
            for (int i = lit; i < 8; i++) {
                text.append(";bed");
            }
            for (String ninth : more) {
                SmokeHome x = new SmokeHome();
                for (int i = 0; i < lit; i++) {
                    x.fire(FIRE, 0, 0);
                }
                dueText(x, text + ";" + ninth, -2 - text.length());
                due(28, "count(1) behind a 9th", x.count(1), lit);
                due(28, "cell(7, 0) behind a 9th", x.cell(7, 0), 0);
                dueText(x, text.toString(), 9 - lit);
                due(28, "count(1) behind an 8th", x.count(1), 8);
                due(28, "cell(7, 0) behind an 8th", x.cell(7, 0), 7);
                dueText(x, ninth, -1);
                dueText(x, "wind 1;wood 0 1", 2);
            }
        }
    }

    private static void endsTooEarly() {
        String[] texts = {"", " ", "    ", "bed;", "bed; ", "bed ; ", "bed at", "bed at ", "bed home", "bed logs ",
            "bed at 3 home", "wind", "wind  ", "wood", "wood 3", "wood 3 ", "wood 3 3;", "bed;wind"};
        for (String text : texts) {
            due(28, "text() of '" + text + "'", textOf(text), -1 - text.length());
        }
        for (int bytes : new int[] {1, 119, 120}) {
            SmokeHome x = withTape(bytes);
            due(28, "text() of " + bytes + " blanks", x.text(), -1 - bytes);
            due(39, "count(5)", x.count(5), 0);
        }
    }

    private static void longestTexts() {
        String wood = "wood 24 9999;";
        String most = wood.repeat(8) + "wood 023 09999";
        String[] texts = {most + " ", most + "  ", most.replace("023", "0023") + " ", most.replace("023", "00023")};
        for (String text : texts) {
            due(28, "bytes of a long text", text.length() / 119, 1);
            due(28, "text() of " + text.length() + " bytes", textOf(text), 9);
        }
        due(28, "text() of 120 bytes, the last of which can't stand", textOf(most + " @"), -120);
        due(28, "text() of 120 bytes, one too much at the end", textOf(most + " ;"), -121);
        due(28, "text() of 119 bytes, one too much at the end", textOf(most + ";"), -120);
        String winds = "wind0;".repeat(19) + "wind4";
        due(28, "text() of twenty ITEMS", textOf(winds), 20);
        due(28, "text() of twenty ITEMS and a blank", textOf(winds + " "), 20);
        due(28, "text() of twenty ITEMS and a SIGN", textOf(winds + ";"), -121);
        String beds = "bed;".repeat(8) + "wind0;".repeat(13) + "wind4";
        due(28, "text() of eight FIRES and fourteen ITEMS more", textOf(beds), 22);
        due(28, "text() of one WORD of 120 bytes", textOf("fire".repeat(30)), -1);
        due(28, "text() of one NUMBER of 115 bytes", textOf("wind " + "0".repeat(114) + "4"), 1);
        due(28, "text() of one NUMBER of 115 bytes, too large", textOf("wind " + "0".repeat(114) + "5"), -6);
        due(28, "text() of one NUMBER of 115 bytes, far too large", textOf("wind 1" + "0".repeat(114)), -6);
    }

    private static void emptyTape() {
        SmokeHome x = new SmokeHome();
        due(28, "text() of nothing", x.text(), -1);
        type(x, "bed");
        due(28, "text()", x.text(), 1);
        due(28, "text() of what was read", x.text(), -1);
        type(x, "bed@");
        due(28, "text() with a FAULT", x.text(), -4);
        due(28, "text() of what had a FAULT", x.text(), -1);
        type(x, "bed");
        due(27, "wipe()", x.wipe(), 3);
        due(28, "text() of what was wiped", x.text(), -1);
        due(39, "count(1)", x.count(1), 1);
        due(40, "status(-1)", x.status(-1), 0);
    }

    // ---- SPOTS

    private static void spots() {
        SmokeHome x = new SmokeHome();
        for (int i = 0; i < 8; i++) {
            x.fire(i % 7, 0, 0);
        }
        for (int spot = 0; spot < 10; spot++) {
            due(30, "as(" + spot + ", 0) at first", x.as(spot, 0), MISSING);
            due(29, "hold(" + spot + ", 7)", x.hold(spot, 7), 1);
            due(39, "count(7)", x.count(7), spot + 1);
            due(30, "as(" + spot + ", 0)", x.as(spot, 0), 7);
        }
        due(29, "hold(10, 7)", x.hold(10, 7), BEYOND);
        due(29, "hold(-1, 7)", x.hold(-1, 7), BEYOND);
        due(29, "hold(0, 8)", x.hold(0, 8), BEYOND);
        due(29, "hold(0, -2)", x.hold(0, -2), BEYOND);
        due(29, "hold(9, 0)", x.hold(9, 0), 1);
        due(30, "as(9, 0)", x.as(9, 0), 0);
        due(30, "as(0, 0)", x.as(0, 0), 7);
        for (int spot = 9; spot >= 0; spot--) {
            due(29, "hold(" + spot + ", -1)", x.hold(spot, -1), 1);
            due(29, "hold(" + spot + ", -1) again", x.hold(spot, -1), 1);
            due(39, "count(7)", x.count(7), spot);
            due(30, "as(" + spot + ", 0) of nothing", x.as(spot, 0), MISSING);
        }
        String[] under = {"0", "01", "02", "023", "0234", "05", "016"};
        x.hold(0, 7);
        for (int kind = 0; kind < 7; kind++) {
            x.change(7, 0, kind);
            for (int as = 0; as < 7; as++) {
                due(30, "as(0, " + as + ") of kind " + kind, x.as(0, as), under[kind].indexOf('0' + as) < 0 ? KIND : 7);
            }
            due(30, "as(0, 7) of kind " + kind, x.as(0, 7), BEYOND);
            due(30, "as(0, -1) of kind " + kind, x.as(0, -1), BEYOND);
        }
    }

    // ---- SHEETS

    /** Number 0 of a sheet, as THE READER tells it. */
    private static void dueNumber(SmokeHome x, int s, int v, String call) {
        x.wood(0, v);
        due(32, call + " is " + v, x.judge(s), 0);
        x.wood(0, v == 0 ? 1 : v - 1);
        due(32, call + " isn't another", x.judge(s), 1);
    }

    private static void numbersOfBits() {
        int[][] rows = {{8, 0, 0}, {8, 1, 1}, {8, 126, 126}, {8, 127, 127}, {8, 256, 0}, {8, 383, 127}, {8, -256, 0},
            {8, -129, 127}, {8, -255, 1}, {8, MIN, 0}, {16, 127, 127}, {16, 128, 128}, {16, 255, 255}, {16, 256, 256},
            {16, 9999, 9999}, {16, 65536, 0}, {16, 65537, 1}, {16, 75535, 9999}, {16, -65535, 1}, {16, MIN, 0},
            {32, 128, 128}, {32, 255, 255}, {32, 9999, 9999}};
        for (int[] r : rows) {
            SmokeHome x = new SmokeHome();
            x.sheet(0, r[0], 1);
            due(32, "write(0, 0, " + r[1] + ")", x.write(0, 0, r[1]), 1);
            dueNumber(x, 0, r[2], r[1] + " of " + r[0] + " bits");
        }
        int[][] any = {{8, -1}, {8, 255}, {8, 511}, {8, MAX}, {16, -1}, {16, 65535}, {16, 131071}, {16, MAX}, {32, -1}};
        for (int[] r : any) {
            due(21, r[1] + " of " + r[0] + " bits is -1", fitsOf(r[0], r[1]), ALL_CELLS);
        }
        int[][] none = {{8, -2}, {8, 254}, {8, 128}, {8, 25}, {16, 255}, {16, 65534}, {16, 32768}, {16, 32767}, {32, 255},
            {32, 65535}, {32, -2}, {32, MAX}, {32, MIN}, {32, 256}, {32, 65536}, {16, 256}};
        for (int[] r : none) {
            due(21, r[1] + " of " + r[0] + " bits is no CELL, nor -1", fitsOf(r[0], r[1]), 0);
        }
        int[][] loads = {{8, 127, 1}, {8, 128, 0}, {8, 255, 0}, {8, 256, 1}, {8, -128, 0}, {16, 999, 1}, {16, 1000, 0},
            {16, 32767, 0}, {16, 32768, 0}, {16, 65536, 1}, {16, 66535, 1}, {16, 66536, 0}, {32, 999, 1}, {32, 1000, 0},
            {32, 65536, 0}, {32, -1, 0}, {32, MIN, 0}, {32, MAX, 0}, {32, 0, 1}};
        for (int[] r : loads) {
            SmokeHome x = new SmokeHome();
            x.fire(FIRE, 0, 0);
            fill(x, 3, r[0], r[1]);
            due(34, "load(3) of " + r[1] + " in " + r[0] + " bits", x.load(3), r[2]);
        }
    }

    private static int fitsOf(int bits, int v) {
        SmokeHome x = new SmokeHome();
        x.fire(FIRE, 0, 0);
        fill(x, 0, bits, v);
        return x.fits(0, 0);
    }

    private static void sheetsOfAllSizes() {
        for (int bits : new int[] {8, 16, 32}) {
            for (int n : new int[] {0, 1, 39, 40}) {
                SmokeHome x = new SmokeHome();
                due(31, "sheet(3, " + bits + ", " + n + ")", x.sheet(3, bits, n), n);
                due(32, "write(3, -1, 5)", x.write(3, -1, 5), BEYOND);
                due(32, "write(3, " + n + ", 5)", x.write(3, n, 5), BEYOND);
                due(32, "write(3, max, 5)", x.write(3, MAX, 5), BEYOND);
                due(32, "write(3, min, 5)", x.write(3, MIN, 5), BEYOND);
                if (n == 0) {
                    due(32, "write(3, 0, 5)", x.write(3, 0, 5), BEYOND);
                    continue;
                }
                due(32, "write(3, 0, 5)", x.write(3, 0, 5), 1);
                due(32, "write(3, " + (n - 1) + ", 6)", x.write(3, n - 1, 6), 1);
                dueNumberAt(x, bits, 3, n - 1, 6);
                dueNumberAt(x, bits, 3, 0, n == 1 ? 6 : 5);
                if (n > 2) {
                    dueNumberAt(x, bits, 3, 1, 0);
                    dueNumberAt(x, bits, 3, n - 2, 0);
                }
                due(31, "sheet(3, " + bits + ", " + n + ") anew", x.sheet(3, bits, n), n);
                dueNumberAt(x, bits, 3, n - 1, 0);
                dueNumberAt(x, bits, 3, 0, 0);
            }
            SmokeHome x = new SmokeHome();
            x.sheet(0, bits, 40);
            x.write(0, 39, 7);
            due(31, "sheet(0, " + bits + ", 1)", x.sheet(0, bits, 1), 1);
            due(31, "sheet(0, " + bits + ", 40)", x.sheet(0, bits, 40), 40);
            dueNumberAt(x, bits, 0, 39, 0);
        }
    }

    private static void dueNumberAt(SmokeHome x, int bits, int s, int i, int v) {
        x.sheet(1, bits, 1);
        due(33, "copy(" + s + ", " + i + ", 1, 0, 1)", x.copy(s, i, 1, 0, 1), 1);
        dueNumber(x, 1, v, "number " + i);
    }

    private static void missing() {
        SmokeHome x = new SmokeHome();
        for (int s = 0; s < 4; s++) {
            due(35, "judge(" + s + ") at first", x.judge(s), MISSING);
            for (int n : new int[] {0, 1, 40}) {
                x.sheet(s, 16, 3);
                due(35, "judge(" + s + ")", x.judge(s), 0);
                due(31, "sheet(" + s + ", 0, " + n + ")", x.sheet(s, 0, n), 0);
                due(35, "judge(" + s + ") of none", x.judge(s), MISSING);
            }
            due(31, "sheet(" + s + ", 0, -1)", x.sheet(s, 0, -1), SIZE);
            due(31, "sheet(" + s + ", 0, 41)", x.sheet(s, 0, 41), BEYOND);
            due(31, "sheet(" + s + ", 8, 0)", x.sheet(s, 8, 0), 0);
            due(35, "judge(" + s + ") of no numbers", x.judge(s), 0);
        }
    }

    private static void dueFirst(SmokeHome x, int s, int... numbers) {
        for (int i = 0; i < numbers.length; i++) {
            x.wood(i, numbers[i]);
        }
        due(33, "numbers of sheet " + s, x.judge(s), 0);
    }

    private static void copies() {
        int[][] rows = {{0, 0, 5}, {0, 1, 4}, {1, 0, 4}, {0, 4, 1}, {4, 0, 1}, {2, 2, 3}, {5, 0, 0}, {0, 5, 0}, {1, 2, 3},
            {2, 1, 3}};
        for (int[] r : rows) {
            for (int bits : new int[] {8, 16, 32}) {
                SmokeHome x = new SmokeHome();
                int[] want = {1, 2, 3, 4, 5};
                fill(x, 0, bits, 1, 2, 3, 4, 5);
                fill(x, 3, bits, 6, 7, 8, 9, 10);
                int[] other = {6, 7, 8, 9, 10};
                System.arraycopy(want, r[0], other, r[1], r[2]);
                String call = r[0] + " to " + r[1] + ", " + r[2];
                due(33, "copy from " + call, x.copy(0, r[0], 3, r[1], r[2]), r[2]);
                dueFirst(x, 3, other);
                dueFirst(x, 0, want);
                System.arraycopy(want.clone(), r[0], want, r[1], r[2]);
                due(33, "copy within one from " + call, x.copy(0, r[0], 0, r[1], r[2]), r[2]);
                dueFirst(x, 0, want);
            }
        }
        SmokeHome x = new SmokeHome();
        x.sheet(0, 8, 40);
        x.write(0, 39, 9);
        x.sheet(2, 8, 40);
        due(33, "copy of all", x.copy(0, 0, 2, 0, 40), 40);
        dueNumberAt(x, 8, 2, 39, 9);
        due(33, "copy of more than all", x.copy(0, 0, 2, 0, 41), BEYOND);
        due(33, "copy behind all", x.copy(0, 40, 2, 40, 0), 0);
        due(33, "copy further behind all", x.copy(0, 41, 2, 40, 0), BEYOND);
        due(33, "copy to further behind all", x.copy(0, 40, 2, 41, 0), BEYOND);
        x.sheet(0, 16, 0);
        x.sheet(2, 16, 0);
        due(33, "copy of no numbers", x.copy(0, 0, 2, 0, 0), 0);
        due(33, "copy of one number of none", x.copy(0, 0, 2, 0, 1), BEYOND);
    }

    private static void loads() {
        for (int fires : new int[] {0, 1, 7, 8}) {
            for (int n : new int[] {0, 1, 7, 8, 9, 40}) {
                SmokeHome x = new SmokeHome();
                for (int i = 0; i < fires; i++) {
                    x.fire(FIRE, 0, 0);
                }
                x.sheet(0, 16, n);
                for (int i = 0; i < n; i++) {
                    x.write(0, i, 999 - i);
                }
                due(34, "load(0) of " + n + " for " + fires, x.load(0), Math.min(n, fires));
                for (int i = 0; i < fires; i++) {
                    due(34, "LOGS of " + i, x.of(i, 3), i < n ? 999 - i : 50);
                }
            }
        }
        for (int first = 0; first < 8; first++) {
            for (int v : new int[] {-1, 1000, MIN, MAX}) {
                SmokeHome x = new SmokeHome();
                x.sheet(0, 32, 8);
                for (int i = 0; i < 8; i++) {
                    x.fire(FIRE, 0, 0);
                    x.write(0, i, i == first ? v : i);
                }
                due(34, "load(0) up to " + v + " at " + first, x.load(0), first);
                for (int i = 0; i < 8; i++) {
                    due(34, "LOGS of " + i, x.of(i, 3), i < first ? i : 50);
                }
            }
        }
    }

    private static void judges() {
        int[][] rows = {{0, 0}, {1, 0}, {24, 0}, {25, 0}, {26, 26}, {40, 26}};
        for (int[] r : rows) {
            SmokeHome x = new SmokeHome();
            x.sheet(0, 16, r[0]);
            due(35, "judge(0) of " + r[0], x.judge(0), r[1]);
            for (int i : new int[] {0, 1, 23, 24}) {
                x.wood(i, 9999);
                due(35, "judge(0) of " + r[0] + ", CELL " + i, x.judge(0), i < r[0] ? i + 1 : 0);
                if (i < r[0]) {
                    x.write(0, i, 9999);
                }
                due(35, "judge(0) of " + r[0] + ", CELL " + i + " too", x.judge(0), r[1]);
            }
        }
        SmokeHome x = new SmokeHome();
        x.sheet(0, 16, 25);
        for (int first = 24; first >= 0; first--) {
            x.wood(first, 1);
            due(35, "judge(0), the first at " + first, x.judge(0), first + 1);
        }
    }

    // ---- whence it was

    private static void whenceItWas() {
        SmokeHome x = new SmokeHome();
        x.fire(FIRE, 24, 0);
        int[][] first = {{-1, ALL_CELLS, 127}, {24, ALL_CELLS, 127}, {23, 0, 0}, {0, 0, 0}, {25, 0, 0}, {-2, 0, 0}};
        for (int[] r : first) {
            fill(x, 0, 8, r[0]);
            due(21, "fits(0, 0) of " + r[0], x.fits(0, 0), r[1]);
            due(22, "kinds(0, 0) of " + r[0], x.kinds(0, 0), r[2]);
        }
        // Behind an HOUR it is AT its CHIMNEY, if that is its HOME or beside it; else it went up, or left.
        int[][] next = {{-1, ALL_CELLS}, {24, 1 << 24 | 1 << 23 | 1 << 19}, {23, 1 << 22 | 1 << 21 | 1 << 20},
            {19, (1 << 19) - 1}, {18, 0}, {25, 0}, {-2, 0}};
        for (int[] r : next) {
            fill(x, 0, 8, -1, r[0]);
            due(21, "fits(0, 0) of any, " + r[0], x.fits(0, 0), r[1]);
            fill(x, 0, 8, 24, r[0]);
            due(21, "fits(0, 0) of 24, " + r[0], x.fits(0, 0), r[1]);
            fill(x, 0, 8, 23, r[0]);
            due(21, "fits(0, 0) of 23, " + r[0], x.fits(0, 0), 0);
        }
        x.sheet(0, 8, 0);
        due(21, "fits(0, 0) of no numbers", x.fits(0, 0), ALL_CELLS);
        due(22, "kinds(0, 0) of no numbers", x.kinds(0, 0), 127);
        SmokeHome up = new SmokeHome();
        up.fire(FIRE, 24, 9);
        fill(up, 0, 8, 24, 24);
        due(22, "kinds, home at once or not away", up.kinds(0, 0), 1 << BED);
        up.wind(3);
        due(22, "kinds, against the WIND", up.kinds(0, 0), 127 - (1 << JAR));
    }

    /** A number of each place, the first and the last too, is of as many HOURS further on. */
    private static void behindEachHour() {
        SmokeHome x = new SmokeHome();
        x.fire(FIRE, 12, 24);
        x.change(0, 3, 999);
        x.wind(2);
        for (int at : new int[] {0, 1, 2, 38, 39}) {
            SmokeHome y = new SmokeHome();
            y.fire(FIRE, 12, 24);
            y.change(0, 3, 999);
            y.wind(2);
            int homes = 0;
            int kinds = 0;
            for (int v = 0; v < 25; v++) {
                y.change(0, 2, v);
                homes |= y.ahead(0, 4, at) == 17 ? 1 << v : 0;
            }
            y.change(0, 2, 24);
            for (int v = 0; v < 7; v++) {
                y.change(0, 0, v);
                kinds |= y.ahead(0, 4, at) == 17 ? 1 << v : 0;
            }
            x.sheet(0, 8, at + 1);
            for (int i = 0; i < at; i++) {
                x.write(0, i, -1);
            }
            x.write(0, at, 17);
            due(21, "fits(0, 0) of 17 behind " + at, x.fits(0, 0), homes);
            due(22, "kinds(0, 0) of 17 behind " + at, x.kinds(0, 0), kinds);
            due(21, "whether some fit behind " + at, homes > 0 ? 1 : 0, at == 0 ? 0 : 1);
        }
    }

    // ---- counts

    private static void counts() {
        SmokeHome x = new SmokeHome();
        due(39, "count(7)", x.count(7), 0);
        due(39, "count(8)", x.count(8), BEYOND);
        due(39, "count(-1)", x.count(-1), BEYOND);
        due(40, "status(0)", x.status(0), 2);
        due(40, "status(-1)", x.status(-1), 2);
        due(40, "status(6)", x.status(6), 0);
        due(40, "status(7)", x.status(7), BEYOND);
        due(40, "status(0), that one counted", x.status(0), 3);
        due(40, "status(-2)", x.status(-2), BEYOND);
        due(40, "status(-1), that one counted", x.status(-1), 4);
        due(40, "status(max)", x.status(MAX), BEYOND);
        due(40, "status(min)", x.status(MIN), BEYOND);
        due(40, "status(0)", x.status(0), 6);
        due(37, "undo() of nothing", x.undo(), NONE);
        x.image();
        x.wood(25, 0);
        due(37, "undo()", x.undo(), 0);
        due(40, "status(-1), of which undo() takes none", x.status(-1), 8);
        due(40, "status(3)", x.status(3), 1);
        SmokeHome all = new SmokeHome();
        all.wood(-1, 0);
        for (int i = 0; i < 9; i++) {
            all.fire(FIRE, 0, 0);
        }
        all.hold(0, 0);
        all.as(0, BED);
        all.undo();
        all.judge(0);
        all.sheet(0, 8, -1);
        int[] want = {7 - 1, 1, 1, 1, 1, 0, 1, 1};
        for (int which = -1; which < 7; which++) {
            due(40, "status(" + which + ") of each one", all.status(which), want[which + 1]);
        }
    }
}
