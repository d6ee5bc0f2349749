/** Rows by a LOG in Terms 4 and 5, promises 17 and 21: each sentence that names an edge. */
public final class LogEdgesTest {
    private static final Due DUE = new Due();
    private static final int NONE = PlateRunner.NONE;
    private static final String FIVE = "plate 0 6 6;".repeat(5);

    public static void main(String[] args) {
        noRuns();
        noPlates();
        allRows();
        runsToWhatStands();
        runsInVain();
        factsAtTheEdge();
        factsInTheRun();
        factsOfNoPlate();
        allFacts();
        sure();
        askNone();
        askLeast();
        fitsRefused();
        beats();
        up();
        leastOfNothing();
        leastRefused();
        another();
        DUE.finish();
    }

    private static void fitsIs(String stage, String log, int... numbers) {
        PlateRunner x = Given.log(stage, log);
        String t = stage + " / " + log;
        DUE.is(t + " fits", x.fits(0, 0, 0), numbers.length);
        for (int k = 0; k < numbers.length; k++) DUE.is(t + " fits " + (10 + k), x.fits(0, 0, 10 + k), numbers[k]);
        DUE.is(t + " beyond", x.fits(0, 0, 10 + numbers.length), -2);
    }

    private static void leastIs(String stage, String log, int... dues) {
        PlateRunner x = Given.log(stage, log);
        for (int what = 0; what < 3; what++) DUE.is(stage + " / " + log + " least " + what, x.least(0, 0, what), dues[what]);
    }

    private static void askIs(String stage, String log, int due) {
        DUE.is(stage + " / " + log + " ask", Given.log(stage, log).fits(0, 0, 1), due);
    }

    private static void noRuns() {
        DUE.says("ROWS of RUNS runs (0): as a number (a 1, then PLATES as digits)");
        fitsIs("plate 0 6 6;", "runs 0;", 1);
        fitsIs(FIVE, "runs 0;", 1);
        PlateRunner x = Given.log(FIVE, "runs 0;");
        DUE.says("Promise 17: SURE of the i-th run (NONE: not so many)");
        for (int i = 0; i < 4; i++) DUE.is("sure " + i, x.fits(0, 0, 2 + i), NONE);
    }

    private static void noPlates() {
        DUE.says("ROWS of RUNS runs, without PLATES: none but the one of no runs");
        fitsIs("", "runs 0;", 1);
        for (int runs = 1; runs <= 4; runs++) fitsIs("", "runs " + runs + ";");
        fitsIs("", "");
        DUE.says("Promise 17: ASK (NONE: nothing FITS, or no PLATES)");
        askIs("", "runs 0;", NONE);
        askIs("", "runs 1;", NONE);
    }

    private static void allRows() {
        DUE.says("RUNS, 0 .. 4: how many; the k-th by numbers");
        int[] many = {1, 5, 25, 125, 625};
        int[] last = {1, 14, 144, 1444, 14444};
        int[] first = {1, 10, 100, 1000, 10000};
        for (int runs = 0; runs <= 4; runs++) {
            PlateRunner x = Given.log(FIVE, "runs " + runs + ";");
            DUE.is("how many", x.fits(0, 0, 0), many[runs]);
            DUE.is("the first", x.fits(0, 0, 10), first[runs]);
            DUE.is("the last", x.fits(0, 0, 9 + many[runs]), last[runs]);
            DUE.says("Promise 17: -2: there is none such (of any): no k-th");
            DUE.is("beyond", x.fits(0, 0, 10 + many[runs]), -2);
            int before = 0;
            for (int k = 0; k < many[runs]; k++) {
                int number = x.fits(0, 0, 10 + k);
                DUE.is("by numbers", number > before, true);
                before = number;
            }
        }
        fitsIs("plate 0 6 6;", "runs 4;", 10000);
        fitsIs("plate 0 6 6;plate 0 6 6;", "runs 2;", 100, 101, 110, 111);
    }

    private static void runsToWhatStands() {
        DUE.says("each to a PLATE that stands as it begins");
        fitsIs("plate 0 6 1;plate 0 6 6;", "runs 2;", 100, 101, 111);
        fitsIs("plate 0 6 2;plate 0 6 6;", "runs 2;", 100, 101, 110, 111);
        fitsIs("plate 0 6 2;plate 0 6 6;", "runs 3;", 1000, 1001, 1010, 1011, 1100, 1101, 1111);
        fitsIs("plate 0 1 1;plate 0 1 1;", "runs 4;", 10000, 11111);
    }

    private static void runsInVain() {
        DUE.says("(in vain, too)");
        fitsIs("speed 1;plate 5 6 5;", "runs 1;", 10);
        fitsIs("speed 1;plate 5 6 5;", "runs 2;");
        fitsIs("speed 1;plate 5 6 6;", "runs 2;", 100);
        fitsIs("speed 1;plate 5 6 5;", "runs 1;lay 0 6;", 10);
        fitsIs("speed 1;plate 5 6 5;", "runs 1;stood 0 6;");
        fitsIs("speed 1;plate 5 6 6;", "runs 1;stood 0 6;", 10);
    }

    private static void factsAtTheEdge() {
        DUE.says("a PLATE stood, or lay, behind so many beats, 0 .. 30; FIT, if all FACTS are so");
        for (int left = 1; left <= 6; left++) {
            String stage = "plate 0 6 " + left + ";";
            for (int beats = 0; beats <= 30; beats++) {
                int stands = Given.log(stage, "runs 0;stood 0 " + beats + ";").fits(0, 0, 0);
                int lies = Given.log(stage, "runs 0;lay 0 " + beats + ";").fits(0, 0, 0);
                DUE.is(stage + " stood behind " + beats, stands, beats < left ? 1 : 0);
                DUE.is(stage + " lay behind " + beats, lies, beats < left ? 0 : 1);
            }
        }
    }

    private static void factsInTheRun() {
        DUE.says("nothing being done behind them: LIFE LEFT behind a run's last beat");
        // Two beats of way, and 1: with LEFT 3 it stands behind 3, and until beat 3 + LIFE.
        for (int beats = 0; beats <= 30; beats++) {
            DUE.is("stood behind " + beats, Given.log("speed 1;plate 2 4 3;", "stood 0 " + beats + ";").fits(0, 0, 0), beats < 7 ? 1 : 0);
            DUE.is("in vain, stood behind " + beats, Given.log("speed 1;plate 2 4 2;", "stood 0 " + beats + ";").fits(0, 0, 0), beats < 2 ? 1 : 0);
            DUE.is("spun twice, stood behind " + beats, Given.log("plate 0 6 1;", "runs 2;stood 0 " + beats + ";").fits(0, 0, 0), beats < 8 ? 1 : 0);
        }
    }

    private static void factsOfNoPlate() {
        DUE.says("(of a PLATE that is not there: never)");
        for (int plates = 0; plates <= 5; plates++) {
            String stage = "plate 0 6 6;".repeat(plates);
            for (int k = 0; k < 5; k++) {
                int due = k < plates ? 1 : 0;
                DUE.is("stood " + k, Given.log(stage, "runs 0;stood " + k + " 0;").fits(0, 0, 0), due);
                DUE.is("lay " + k, Given.log(stage, "runs 0;lay " + k + " 30;").fits(0, 0, 0), due);
            }
        }
    }

    private static void allFacts() {
        DUE.says("FIT, if all FACTS are so");
        String good = "stood 0 0;lay 0 6;stood 1 5;lay 1 6;stood 0 5;lay 0 30;stood 1 0;";
        String stage = "plate 0 6 6;plate 0 6 6;";
        fitsIs(stage, "runs 0;" + good + "lay 1 7;", 1);
        fitsIs(stage, "runs 0;" + good + "lay 1 5;");
        fitsIs(stage, "runs 0;lay 0 0;" + good);
        fitsIs(stage, "runs 0;", 1);
        fitsIs("plate 0 6 2;plate 0 6 2;", "runs 1;stood 1 2;", 11);
        fitsIs("plate 0 6 2;plate 0 6 2;", "runs 1;stood 0 2;stood 1 2;");
    }

    private static void sure() {
        DUE.says("SURE of the i-th run: the PLATE, if it is one in all that FIT. Promise 17: i 0 .. 3 (NONE: not one, not so many, or nothing FITS)");
        String twins = "plate 0 2 2;plate 0 2 2;";
        String[] logs = {"runs 1;", "runs 1;stood 1 2;", "runs 2;stood 1 3;stood 0 2;", "runs 4;stood 0 5;stood 1 4;", "runs 4;lay 0 0;", "runs 0;"};
        int[][] dues = {{NONE, NONE, NONE, NONE}, {1, NONE, NONE, NONE}, {0, 1, NONE, NONE}, {1, 0, 1, 0}, {NONE, NONE, NONE, NONE},
            {NONE, NONE, NONE, NONE}};
        for (int i = 0; i < logs.length; i++)
            for (int run = 0; run < 4; run++)
                DUE.is(logs[i] + " sure " + run, Given.log(twins, logs[i]).fits(0, 0, 2 + run), dues[i][run]);
        // The first run is one in all, the last is not.
        PlateRunner x = Given.log("plate 0 6 1;plate 0 6 6;", "runs 2;stood 0 5;");
        DUE.is("rows", x.fits(0, 0, 0), 2);
        DUE.is("sure", x.fits(0, 0, 2), 0);
        DUE.is("not one", x.fits(0, 0, 3), NONE);
        DUE.is("plate 4", Given.log(FIVE, "runs 4;stood 4 9;").fits(0, 0, 5), 4);
    }

    private static void askNone() {
        DUE.says("Promise 17: ASK (NONE: nothing FITS, or no PLATES)");
        askIs("plate 0 6 6;", "lay 0 0;", NONE);
        askIs("plate 0 6 6;", "stood 1 0;", NONE);
        askIs("", "", NONE);
        askIs("", "runs 0;", NONE);
    }

    private static void askLeast() {
        DUE.says("ASK: the greater number is least, of several the least");
        // One row: any question has 1 answer.
        askIs("plate 0 6 6;", "", 0);
        askIs("plate 0 6 6;plate 0 6 6;", "runs 0;", 0);
        // 6 beats either way; only then do the rows differ.
        askIs("speed 1;plate 5 6 6;plate 5 6 6;", "", 60);
        askIs("plate 0 2 1;plate 0 2 2;", "", 10);
        DUE.says("ASK: the beats, 0 .. 20 (10 times the beats, and the PLATE)");
        // Spun last in beat 6 by 8 of 16 rows, which stand until beat 12.
        askIs("speed 1;start 2;plate 0 6 6;plate 0 6 6;", "runs 4;", 110);
        // 0 stands by all three rows that fit up to beat 6; 2 falls in beat 1 unless it is run to.
        askIs("plate 0 6 6;plate 0 6 6;plate 0 6 1;", "", 12);
        askIs(FIVE, "runs 1;stood 4 6;", 0);
    }

    private static void fitsRefused() {
        DUE.says("Promise 17: -2: there is none such (of any), or for another what");
        for (String stage : new String[] {"", "plate 0 6 6;", FIVE}) {
            PlateRunner x = Given.log(stage, "runs 1;");
            for (int what : new int[] {-1, -2, 6, 7, 8, 9}) DUE.is("what " + what, x.fits(0, 0, what), -2);
            for (int far : Given.FAR_OFF) DUE.is("what " + far, x.fits(0, 0, far), -2);
            for (int what = 0; what < 12; what++) {
                DUE.is("stage 1", x.fits(1, 0, what), -2);
                DUE.is("stage -1", x.fits(-1, 0, what), -2);
                DUE.is("log 1", x.fits(0, 1, what), -2);
                DUE.is("log -1", x.fits(0, -1, what), -2);
            }
            for (int far : Given.FAR_OFF) DUE.is("stage " + far, x.fits(far, 0, 0), -2);
            for (int far : Given.FAR_OFF) DUE.is("log " + far, x.fits(0, far, 0), -2);
        }
    }

    private static void beats() {
        DUE.says("LEAST, GREATEST: how many beats RUNS take by any ROW that FITS");
        leastIs("plate 0 6 6;", "runs 1;", 1, 1, 1);
        leastIs("speed 1;plate 0 6 6;plate 9 6 6;", "runs 1;", 1, 10, 2);
        leastIs("speed 1;plate 0 6 6;plate 9 6 6;", "runs 1;lay 0 6;", 10, 10, 0);
        leastIs("speed 1;plate 0 6 6;plate 9 6 6;", "runs 1;stood 0 6;", 1, 1, 2);
        leastIs(FIVE, "runs 4;", 4, 4, 5);
        // He can run to 1 as the last one alone: behind it both lie.
        leastIs("speed 1;plate 0 6 6;plate 9 6 6;", "runs 4;", 4, 13, 2);
    }

    private static void up() {
        DUE.says("UP: the most PLATES that stand behind its last run by any ROW that FITS");
        leastIs("plate 0 1 1;plate 0 1 1;", "runs 1;", 1, 1, 1);
        leastIs("speed 1;plate 5 6 5;", "runs 1;", 6, 6, 0);
        leastIs("speed 1;plate 5 6 6;", "runs 1;", 6, 6, 1);
        leastIs("speed 1;plate 2 6 6;plate 2 6 3;plate 2 6 4;", "runs 1;", 3, 3, 3);
        leastIs("speed 1;plate 2 6 6;plate 2 6 3;plate 2 6 4;", "runs 1;lay 1 3;", 3, 3, 2);
    }

    private static void leastOfNothing() {
        DUE.says("LEAST, GREATEST, UP of no RUNS");
        for (int plates = 0; plates <= 5; plates++) leastIs("plate 9 1 1;".repeat(plates), "runs 0;", 0, 0, plates);
        DUE.says("Promise 21: NONE: nothing FITS");
        leastIs("", "runs 1;", NONE, NONE, NONE);
        leastIs("plate 0 6 6;", "lay 0 0;", NONE, NONE, NONE);
        leastIs("plate 0 6 6;", "stood 1 0;", NONE, NONE, NONE);
        leastIs("speed 1;plate 9 6 6;", "runs 2;", NONE, NONE, NONE);
    }

    private static void another() {
        DUE.says("By a LOG of a STAGE: by this one alone, whichever was asked for before");
        PlateRunner x = Given.log("speed 1;plate 5 6 6;plate 5 6 6;", "runs 1;");
        Tape.tell(x, 2, NONE, "runs 4;lay 0 0;");
        Tape.tell(x, 0, NONE, "plate 0 2 1;plate 0 2 2;");
        for (int round = 0; round < 3; round++) {
            DUE.is("ask", x.fits(0, 0, 1), 60);
            DUE.is("ask", x.fits(0, 1, 1), NONE);
            DUE.is("ask", x.fits(1, 0, 1), 10);
            int[] dues = {6, 6, 1};
            int[] others = {1, 1, 2};
            for (int what = 0; what < 3; what++) {
                DUE.is("least " + what, x.least(0, 0, what), dues[what]);
                DUE.is("nothing fits " + what, x.least(0, 1, what), NONE);
                DUE.is("at the other stage " + what, x.least(1, 0, what), others[what]);
            }
            DUE.is("rows", x.fits(0, 0, 0), 2);
            DUE.is("no rows", x.fits(0, 1, 0), 0);
            DUE.is("no sure run", x.fits(0, 1, 2), NONE);
            DUE.is("no k-th", x.fits(0, 1, 10), -2);
        }
    }

    private static void leastRefused() {
        DUE.says("Promise 21: NONE: there is none such (of either), or for another what");
        PlateRunner x = Given.log("plate 0 6 6;", "");
        for (int what = -2; what <= 5; what++) {
            DUE.is("what " + what, x.least(0, 0, what), what >= 0 && what <= 2 ? 1 : NONE);
            for (int k : new int[] {-1, 1, 2}) {
                DUE.is("stage " + k, x.least(k, 0, what), NONE);
                DUE.is("log " + k, x.least(0, k, what), NONE);
            }
        }
        for (int far : Given.FAR_OFF) {
            DUE.is("what " + far, x.least(0, 0, far), NONE);
            DUE.is("stage " + far, x.least(far, 0, 0), NONE);
            DUE.is("log " + far, x.least(0, far, 0), NONE);
        }
    }
}
