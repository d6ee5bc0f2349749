/** Stages in Term 5, promise 19: each sentence that names an edge. */
public final class LoadEdgesTest {
    private static final Due DUE = new Due();
    private static final int NONE = PlateRunner.NONE;
    private static final String TWINS = "plate 0 2 2;plate 0 2 2;";

    public static void main(String[] args) {
        withoutPlates();
        loads();
        falling();
        first();
        span();
        close();
        alone();
        pairs();
        late();
        turn();
        inRow();
        centre();
        swap();
        loadRefused();
        DUE.finish();
    }

    private static void loadIs(String stage, int what, int due) {
        DUE.is(stage + " load " + what, Given.stage(stage).load(0, what), due);
    }

    private static void withoutPlates() {
        DUE.says("LOAD, FIRST (none: none), SPAN (0), TURN (1), INROW (0), CENTRE, SWAP (none: none), without PLATES");
        int[] dues = {0, 1, NONE, 0, 0, 0, 0, 0, 1, 0, 0, 0, NONE};
        for (String stage : new String[] {"", "speed 1;start 9;"})
            for (int what = 0; what <= 12; what++) loadIs(stage, what, dues[what]);
    }

    private static void loads() {
        DUE.says("LOAD: of all PLATES 1 by LIFE, together, a fraction in least terms");
        String[] lives = {"1", "6", "11111", "66666", "23", "236", "46", "345", "12345", "55555", "66", "666", "33", "2222"};
        int[][] dues = {{1, 1}, {1, 6}, {5, 1}, {5, 6}, {5, 6}, {1, 1}, {5, 12}, {47, 60}, {137, 60}, {1, 1}, {1, 3}, {1, 2}, {2, 3}, {2, 1}};
        for (int i = 0; i < lives.length; i++) {
            StringBuilder stage = new StringBuilder();
            for (char life : lives[i].toCharArray()) stage.append("plate 3 " + life + " 1;");
            loadIs(stage.toString(), 0, dues[i][0]);
            loadIs(stage.toString(), 1, dues[i][1]);
        }
    }

    private static void falling() {
        DUE.says("FALLING of k: nobody runs: the k-th PLATE that FALLS, of one beat the least first. Promise 19: (NONE: not so many)");
        String[] lefts = {"", "6", "66", "21", "12", "33221", "65432", "11111"};
        int[][] dues = {{}, {0}, {0, 1}, {1, 0}, {0, 1}, {4, 2, 3, 0, 1}, {4, 3, 2, 1, 0}, {0, 1, 2, 3, 4}};
        for (int i = 0; i < lefts.length; i++) {
            StringBuilder stage = new StringBuilder();
            for (char left : lefts[i].toCharArray()) stage.append("plate 3 6 " + left + ";");
            PlateRunner x = Given.stage(stage.toString());
            for (int k = 0; k < 12; k++) DUE.is(lefts[i] + " falling " + k, x.load(0, 20 + k), k < dues[i].length ? dues[i][k] : NONE);
        }
    }

    private static void first() {
        DUE.says("FIRST: behind how many beats the first one FALLS so (none: none)");
        for (int left = 1; left <= 6; left++) {
            loadIs("plate 0 6 " + left + ";", 2, left);
            loadIs("plate 0 6 6;plate 0 6 " + left + ";plate 0 6 6;", 2, left);
        }
    }

    private static void span() {
        DUE.says("SPAN: the greatest PLACE less the least (0 without PLATES)");
        loadIs("plate 9 1 1;", 3, 0);
        loadIs("plate 0 1 1;plate 9 1 1;", 3, 9);
        loadIs("plate 9 1 1;plate 0 1 1;", 3, 9);
        loadIs("plate 5 1 1;plate 3 1 1;plate 7 1 1;plate 4 1 1;", 3, 4);
        loadIs("start 0;plate 9 1 1;plate 9 1 1;", 3, 0);
    }

    private static void close() {
        DUE.says("CLOSE: couples of PLATES that have one PLACE");
        int[] couples = {0, 0, 1, 3, 6, 10};
        for (int plates = 0; plates <= 5; plates++) loadIs("plate 4 1 1;".repeat(plates), 4, couples[plates]);
        loadIs("plate 0 1 1;plate 1 1 1;plate 2 1 1;", 4, 0);
        loadIs("plate 0 1 1;plate 9 1 1;plate 0 1 1;plate 9 1 1;plate 9 1 1;", 4, 4);
    }

    private static void alone() {
        DUE.says("ALONE: PLATES (bits) each of which alone is FOREVER");
        loadIs("plate 0 1 1;plate 0 1 1;", 5, 3);
        loadIs("speed 1;plate 0 1 1;plate 1 1 1;plate 1 2 2;plate 5 6 5;plate 5 6 6;", 5, 0b10101);
        loadIs("plate 9 6 1;", 5, 0);
        loadIs("plate 9 6 6;", 5, 1);
        loadIs("plate 0 1 1;".repeat(5), 5, 31);
    }

    private static void pairs() {
        DUE.says("PAIRS: couples of PLATES that alone are FOREVER");
        loadIs("plate 0 6 6;", 6, 0);
        loadIs(TWINS, 6, 1);
        loadIs("plate 0 1 1;plate 0 1 1;", 6, 0);
        loadIs("plate 0 2 2;".repeat(5), 6, 10);
        loadIs("plate 0 1 1;".repeat(5), 6, 0);
        loadIs(TWINS + "plate 0 1 1;plate 9 6 1;", 6, 1);
        loadIs("plate 9 6 1;plate 0 6 6;" + TWINS, 6, 3);
    }

    private static void late() {
        DUE.says("LATE: PLATES (bits) to which a run, made at once, is in vain");
        for (int left = 1; left <= 6; left++) {
            StringBuilder stage = new StringBuilder("speed 1;");
            for (int way = 0; way < 5; way++) stage.append("plate " + way + " 6 " + left + ";");
            loadIs(stage.toString(), 7, left >= 5 ? 0 : 31 & ~((1 << left) - 1));
        }
        loadIs("speed 1;start 9;plate 0 6 6;plate 9 6 1;plate 4 6 6;plate 3 6 6;", 7, 0b1001);
    }

    private static void turn() {
        DUE.says("TURN: whether all are kept up for ever by runs to PLATE 0, 1, and so on, and 0 again");
        loadIs("plate 0 1 1;", 8, 1);
        loadIs(TWINS, 8, 1);
        loadIs(TWINS + "plate 0 2 2;", 8, 0);
        for (int plates = 1; plates <= 5; plates++) {
            loadIs(("plate 0 " + plates + " " + plates + ";").repeat(plates), 8, 1);
            if (plates > 1) loadIs(("plate 0 " + (plates - 1) + " " + (plates - 1) + ";").repeat(plates), 8, 0);
        }
        // 1 falls in the beat in which 0 is spun, or stands until its turn comes.
        loadIs("plate 0 6 6;plate 0 6 1;", 8, 0);
        loadIs("plate 0 6 6;plate 0 6 2;", 8, 1);
        // One beat and 1 from pole to pole: each is seen every 4 beats.
        loadIs("speed 1;plate 0 4 4;plate 1 4 4;", 8, 1);
        loadIs("speed 1;plate 0 3 3;plate 1 3 3;", 8, 0);
        // It can be kept up for ever, but not by turns.
        DUE.is("for ever", Given.stage("plate 0 6 6;plate 0 2 2;plate 0 6 6;").keep(0, 0), 1);
        loadIs("plate 0 6 6;plate 0 2 2;plate 0 6 6;", 8, 0);
    }

    private static void inRow() {
        DUE.says("INROW: how many runs so are made ahead of the first that is in vain, or by which a PLATE FALLS, at most 99 (99, if none is)");
        loadIs("plate 0 1 1;", 9, 99);
        loadIs(TWINS, 9, 99);
        loadIs("plate 9 6 1;", 9, 0);
        loadIs("plate 0 6 6;plate 0 6 1;", 9, 0);
        loadIs("plate 0 6 6;plate 0 6 2;", 9, 99);
        loadIs("plate 0 1 1;plate 0 6 6;", 9, 1);
        loadIs("plate 0 2 2;plate 0 2 2;plate 0 6 6;", 9, 2);
        loadIs("plate 0 6 6;plate 0 2 2;plate 0 6 6;", 9, 3);
        loadIs("plate 0 6 6;".repeat(4) + "plate 0 4 4;", 9, 3);
        loadIs("plate 0 4 4;" + "plate 0 6 6;".repeat(4), 9, 4);
        loadIs("plate 0 6 6;".repeat(5), 9, 99);
        loadIs("speed 1;plate 0 4 4;plate 1 4 4;", 9, 99);
        loadIs("speed 1;plate 0 3 3;plate 1 3 3;", 9, 2);
        // From START 5 beats and 1, then one each.
        loadIs("speed 1;start 5;plate 0 6 6;", 9, 99);
        loadIs("speed 1;start 6;plate 0 6 6;", 9, 0);
    }

    private static void centreIs(String stage, int place, int ways) {
        loadIs(stage, 10, place);
        loadIs(stage, 11, ways);
    }

    private static void centre() {
        DUE.says("CENTRE: the place, 0 .. 9, from which WAYS to all PLATES together are least, of several the least; how much");
        for (int place = 0; place <= 9; place++) centreIs("speed 1;plate " + place + " 1 1;", place, 0);
        centreIs("speed 9;start 9;plate 9 1 1;plate 0 1 1;", 0, 1);
        centreIs("speed 1;plate 0 1 1;plate 9 1 1;", 0, 9);
        centreIs("speed 1;plate 2 1 1;plate 9 1 1;plate 5 1 1;", 5, 7);
        centreIs("speed 1;plate 3 1 1;plate 6 1 1;", 3, 3);
        // From 4 one beat each to 0 and to 8; from any other place 3 or more in all.
        centreIs("speed 4;plate 0 1 1;plate 8 1 1;plate 4 1 1;", 4, 2);
        centreIs("speed 3;plate 9 1 1;plate 9 1 1;plate 0 1 1;", 9, 3);
    }

    private static void swap() {
        DUE.says("SWAP: the two PLATES which, their PLACES being changed, make it FOREVER, if it is not, of several the least (none: none)");
        loadIs("plate 0 1 1;", 12, NONE);
        loadIs("plate 9 6 1;", 12, NONE);
        loadIs(TWINS, 12, NONE);
        loadIs(TWINS + "plate 0 2 2;", 12, NONE);
        // The one that has 1 LEFT is late at 9, and in time where he begins.
        loadIs("speed 9;plate 9 6 1;plate 0 6 6;", 12, 1);
        loadIs("speed 9;plate 0 6 6;plate 9 6 1;", 12, 1);
        loadIs("speed 9;plate 9 6 1;plate 0 6 6;plate 0 6 6;", 12, 1);
        loadIs("speed 9;plate 9 6 6;plate 9 6 1;plate 0 6 6;", 12, 12);
        DUE.says("SWAP: if it is not FOREVER");
        DUE.is("for ever", Given.stage("speed 9;plate 0 6 6;plate 9 6 6;").keep(0, 0), 1);
        loadIs("speed 9;plate 0 6 6;plate 9 6 6;", 12, NONE);
        DUE.says("SWAP: 10 times the lesser, and the other one");
        // 3 alone stands where he begins; 2 has 1 LEFT and must be there.
        loadIs("speed 9;plate 9 6 6;plate 9 6 6;plate 9 6 1;plate 0 6 6;", 12, 23);
    }

    private static void loadRefused() {
        DUE.says("Promise 19: -2: there is none such, or for another what");
        for (String stage : new String[] {"", TWINS}) {
            PlateRunner x = Given.stage(stage);
            for (int what = 13; what < 20; what++) DUE.is("what " + what, x.load(0, what), -2);
            for (int what = -40; what < 0; what++) DUE.is("what " + what, x.load(0, what), -2);
            for (int far : Given.FAR_OFF) DUE.is("what " + far, x.load(0, far), far < 0 ? -2 : NONE);
            for (int what = 0; what < 26; what++) {
                DUE.is("stage 1", x.load(1, what), -2);
                DUE.is("stage -1", x.load(-1, what), -2);
            }
            for (int far : Given.FAR_OFF) DUE.is("stage " + far, x.load(far, 0), -2);
        }
    }
}
