/** What the hand-reckoned tests share: the document's numbers by their names, and the tally of answers. */
class Checks {
    static final int BEYOND = -1000001;
    static final int FULL = -1000002;
    static final int KIND = -1000003;
    static final int NONE = -1000004;
    static final int STATE = -1000005;
    static final int MISSING = -1000006;
    static final int SIZE = -1000007;

    static final int FIRE = 0;
    static final int STOVE = 1;
    static final int PRIEST = 2;
    static final int POOR = 3;
    static final int JAR = 4;
    static final int FOREIGN = 5;
    static final int BED = 6;

    static final int ALL_CELLS = (1 << 25) - 1;

    private static int wrong = 0;
    private static int asked = 0;

    static void due(int promise, String call, long got, long want) {
        asked++;
        if (got != want) {
            wrong++;
            System.out.println("promise " + promise + ": " + call + " answered " + got + ", due is " + want);
        }
    }

    static void dueRow(int promise, SmokeHome x, int fire, int... want) {
        for (int what = 0; what < want.length; what++) {
            due(promise, "of(" + fire + ", " + what + ")", x.of(fire, what), want[what]);
        }
    }

    static void type(SmokeHome x, String text) {
        for (int i = 0; i < text.length(); i++) {
            x.feed(text.charAt(i), 1);
        }
    }

    static void dueText(SmokeHome x, String text, int want) {
        x.wipe();
        type(x, text);
        due(28, "text() of '" + text + "'", x.text(), want);
        due(28, "count(5) behind '" + text + "'", x.count(5), 0);
    }

    static void fill(SmokeHome x, int s, int bits, int... numbers) {
        x.sheet(s, bits, numbers.length);
        for (int i = 0; i < numbers.length; i++) {
            x.write(s, i, numbers[i]);
        }
    }

    static void finish() {
        System.out.println(wrong == 0 ? asked + " answers are as due" : wrong + " answers are not as due");
        if (wrong != 0) {
            System.exit(1);
        }
    }
}
