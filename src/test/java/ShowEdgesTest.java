/** Term 2, shows of Term 5, DRAWN of Term 4, promises 8, 9, 18, 20: each sentence that names an edge. */
public final class ShowEdgesTest {
    private static final Due DUE = new Due();
    private static final int NONE = PlateRunner.NONE;
    /** From end to end, 10 beats each: 90 beats, and both plates lie but the one set up last. */
    private static final String ENDS = "speed 1;start 9;plate 0 5 5;plate 9 6 6;";
    private static final String NINETY = "run 0;set 1;set 0;set 1;set 0;set 1;set 0;set 1;set 0;";

    public static void main(String[] args) {
        beats();
        ways();
        runsInTime();
        runsInVain();
        runsOthersFall();
        sets();
        gusts();
        oils();
        noSuchPlate();
        notAsSaid();
        ninetyNineBeats();
        stops();
        stopRefused();
        states();
        stateRefused();
        drawnRefused();
        drawnWraps();
        drawnIfItMay();
        drawnBare();
        drawnToTheLastBeat();
        afterRefused();
        afterNothing();
        afterUpToStop();
        afterFell();
        afterSpun();
        afterLongest();
        afterWaysAndMost();
        afterAnother();
        DUE.finish();
    }

    /** beats, place, standing, fell, spun, then LEFT of each plate. */
    private static void stateIs(String stage, String show, int n, int... dues) {
        PlateRunner x = Given.show(stage, show);
        for (int i = 0; i < dues.length; i++) {
            int what = i < 5 ? i : i + 5;
            DUE.is(stage + " / " + show + " state " + n + " " + what, x.state(0, 0, n, what), dues[i]);
        }
    }

    private static void stopIs(String stage, String show, int due) {
        DUE.is(stage + " / " + show + " stop", Given.show(stage, show).stop(0, 0), due);
    }

    private static void afterIs(String stage, String show, int... dues) {
        PlateRunner x = Given.show(stage, show);
        for (int what = 0; what < dues.length; what++)
            DUE.is(stage + " / " + show + " after " + what, x.after(0, 0, what), dues[what]);
    }

    private static void beats() {
        DUE.says("All PLATES stand at first");
        stateIs("plate 0 1 1;plate 9 6 1;plate 9 6 6;plate 0 2 1;plate 0 3 3;", "", 0, 0, 0, 31, 0, 0, 1, 1, 6, 1, 3);
        DUE.says("As a beat goes by, each PLATE that stands has 1 LEFT less; it FALLS, if that is 0");
        String stage = "plate 0 6 1;plate 0 6 2;plate 0 6 6;";
        stateIs(stage, "wait;", 1, 1, 0, 6, 1, 0, 0, 1, 5);
        stateIs(stage, "wait;wait;", 2, 2, 0, 4, 2, 0, 0, 0, 4);
        stateIs(stage, "wait;wait;wait;wait;wait;", 5, 5, 0, 4, 2, 0, 0, 0, 1);
        stateIs(stage, "wait;wait;wait;wait;wait;wait;", 6, 6, 0, 0, 3, 0, 0, 0, 0);
        DUE.says("one that lies has no LEFT to lose, and FALLS no more");
        stateIs(stage, "wait;".repeat(40), 40, 40, 0, 0, 3, 0, 0, 0, 0);
    }

    private static void ways() {
        DUE.says("WAY from a place to another one: the difference by SPEED, cut upwards, in beats");
        for (int speed = 1; speed <= 9; speed++)
            for (int start = 0; start <= 9; start++)
                for (int place = 0; place <= 9; place++) {
                    int way = 0;
                    for (int far = Math.abs(start - place); far > 0; far -= speed) way++;
                    PlateRunner x = Given.show("speed " + speed + ";start " + start + ";plate " + place + " 6 6;", "run 0;");
                    DUE.is("beats", x.state(0, 0, 1, 0), way + 1);
                    DUE.is("where he is", x.state(0, 0, 1, 1), place);
                    DUE.is("ways", x.after(0, 0, 4), way);
                }
    }

    private static void runsInTime() {
        DUE.says("if it stands behind all of these but the last one, it has LIFE LEFT behind the last one (it does not FALL in it), it was SPUN");
        stateIs("plate 0 1 1;", "run 0;", 1, 1, 0, 1, 0, 1, 1);
        stateIs("plate 0 6 1;", "run 0;", 1, 1, 0, 1, 0, 1, 6);
        stateIs("plate 0 6 6;", "run 0;", 1, 1, 0, 1, 0, 1, 6);
        for (int way = 1; way <= 5; way++) {
            String stage = "speed 1;plate " + way + " 6 " + (way + 1) + ";";
            stateIs(stage, "run 0;", 1, way + 1, way, 1, 0, 1, 6);
        }
        DUE.says("LIFE LEFT behind the last one, not one less");
        stateIs("speed 1;plate 2 4 4;", "run 0;wait;", 2, 4, 2, 1, 0, 1, 3);
    }

    private static void runsInVain() {
        DUE.says("else the run was in vain (the beats go by, the runner is at its PLACE all the same)");
        for (int way = 1; way <= 6; way++) {
            String stage = "speed 1;plate " + way + " 6 " + way + ";";
            stateIs(stage, "run 0;", 1, way + 1, way, 0, 1, 0, 0);
            afterIs(stage, "run 0;", 0, 1, NONE);
        }
        stateIs("speed 1;start 9;plate 0 6 6;", "run 0;", 1, 10, 0, 0, 1, 0, 0);
    }

    private static void runsOthersFall() {
        DUE.says("each PLATE that stands has 1 LEFT less: the others in a run's last beat, too");
        stateIs("speed 1;plate 2 6 6;plate 2 6 3;plate 0 6 4;", "run 0;", 1, 3, 2, 5, 1, 1, 6, 0, 1);
        stateIs("plate 0 6 6;plate 0 6 1;plate 0 6 2;", "run 0;", 1, 1, 0, 5, 1, 1, 6, 0, 1);
    }

    private static void sets() {
        DUE.says("set: as many beats as WAY, and 1, go by, the runner is at its PLACE then, and it stands, LIFE LEFT");
        stateIs("plate 0 4 1;", "wait;set 0;", 2, 2, 0, 1, 1, 0, 4);
        stateIs("speed 1;plate 9 4 1;", "wait;set 0;", 2, 11, 9, 1, 1, 0, 4);
        stateIs("speed 4;plate 9 4 1;plate 0 6 5;plate 0 6 6;", "wait;set 0;", 2, 5, 9, 5, 2, 0, 4, 0, 1);
        DUE.says("set: of a PLATE that FELL, which can FALL again");
        stateIs("plate 0 1 1;", "wait;set 0;wait;set 0;wait;", 5, 5, 0, 0, 3, 0, 0);
    }

    private static void gusts() {
        DUE.says("gust: a PLATE that stands has 1 LEFT less (no beat goes by); it FALLS, if that is 0");
        stateIs("plate 0 6 2;plate 0 6 1;", "gust 0;gust 0;", 1, 0, 0, 3, 0, 0, 1, 1);
        stateIs("plate 0 6 2;plate 0 6 1;", "gust 0;gust 0;", 2, 0, 0, 2, 1, 0, 0, 1);
        stopIs("plate 0 6 2;plate 0 6 1;", "gust 0;gust 0;gust 0;", 2);
        stopIs("plate 0 6 6;", "gust 0;".repeat(7), 6);
        stateIs("plate 0 6 2;", "gust 0;run 0;", 2, 1, 0, 1, 0, 1, 6);
    }

    private static void oils() {
        DUE.says("oil: a PLATE, LIFE of which is below 6, has 1 more (LEFT as it is)");
        for (int life = 1; life <= 6; life++) stopIs("plate 0 " + life + " 1;", "oil 0;".repeat(8), 6 - life);
        PlateRunner x = Given.show("plate 0 5 3;plate 0 2 2;", "oil 0;run 0;");
        int[] lives = {5, 6, 6};
        int[] lefts = {3, 3, 6};
        for (int n = 0; n < 3; n++) {
            DUE.is("life", x.state(0, 0, n, 20), lives[n]);
            DUE.is("left", x.state(0, 0, n, 10), lefts[n]);
            DUE.is("life of the other", x.state(0, 0, n, 21), 2);
        }
        DUE.is("no beat goes by", x.state(0, 0, 1, 0), 0);
        DUE.is("the stage is as told", x.stage(0, 20), 5);
        DUE.says("oil: a PLATE (that lies, too)");
        x = Given.show("plate 0 2 1;", "wait;oil 0;set 0;");
        DUE.is("stop", x.stop(0, 0), 3);
        DUE.is("it lies still", x.state(0, 0, 2, 2), 0);
        DUE.is("left", x.state(0, 0, 2, 10), 0);
        DUE.is("life", x.state(0, 0, 2, 20), 3);
        DUE.is("set up with it", x.state(0, 0, 3, 10), 3);
    }

    private static void noSuchPlate() {
        DUE.says("A DEED can't be, if there is no such PLATE");
        for (int plates = 0; plates <= 5; plates++) {
            String stage = "plate 0 5 5;".repeat(plates);
            for (int k = 0; k < 5; k++) {
                stopIs(stage, "run " + k + ";", k < plates ? 1 : 0);
                stopIs(stage, "gust " + k + ";", k < plates ? 1 : 0);
                stopIs(stage, "oil " + k + ";", k < plates ? 1 : 0);
                stopIs(stage, "wait;wait;wait;wait;wait;set " + k + ";", k < plates ? 6 : 5);
            }
            stopIs(stage, "wait;", 1);
        }
    }

    private static void notAsSaid() {
        DUE.says("A DEED can't be, if it is not as said");
        stopIs("plate 0 6 1;", "wait;run 0;", 1);
        stopIs("plate 0 6 2;", "wait;run 0;", 2);
        stopIs("plate 0 6 1;", "set 0;", 0);
        stopIs("plate 0 6 1;", "wait;set 0;set 0;", 2);
        stopIs("plate 0 6 1;", "wait;gust 0;", 1);
        stopIs("plate 0 6 2;", "wait;gust 0;", 2);
        stopIs("plate 0 6 6;", "oil 0;", 0);
        stopIs("plate 0 5 5;", "oil 0;", 1);
    }

    private static void ninetyNineBeats() {
        DUE.says("A DEED can't be, if behind it more than 99 beats had gone by");
        // Both fall by the run, then by each set but the first the one set up before it.
        stateIs(ENDS, NINETY, 9, 90, 0, 1, 9, 0, 5, 0);
        stopIs(ENDS, NINETY + "wait;".repeat(9), 18);
        stopIs(ENDS, NINETY + "wait;".repeat(10), 18);
        stateIs(ENDS, NINETY + "wait;".repeat(10), 18, 99, 0, 0, 10, 0, 0, 0);
        stopIs(ENDS, NINETY + "set 1;", 9);
        // One place less far: 99 beats by the set.
        stopIs("speed 1;start 8;plate 0 5 5;plate 8 6 6;", "run 0;" + "set 1;set 0;".repeat(5) + "set 1;", 11);
        stateIs("speed 1;start 8;plate 0 5 5;plate 8 6 6;", "run 0;" + "set 1;set 0;".repeat(5), 11, 99, 0, 1, 11, 0, 5, 0);
        // Behind 90 beats plate 0 has 5 LEFT: runs to it, a beat each.
        stopIs(ENDS, NINETY + "run 0;".repeat(9), 18);
        stopIs(ENDS, NINETY + "run 0;".repeat(10), 18);
        stateIs(ENDS, NINETY + "run 0;".repeat(10), 18, 99, 0, 1, 9, 9, 5, 0);
        DUE.says("more than 99 beats: a gust and oil take none");
        stopIs(ENDS, NINETY + "run 0;".repeat(9) + "gust 0;oil 0;gust 0;gust 0;gust 0;gust 0;gust 0;", 24);
        stopIs(ENDS, NINETY + "run 0;".repeat(9) + "wait;gust 0;", 18);
    }

    private static void stops() {
        DUE.says("STOP: the first DEED that can't be, else how many there are");
        stopIs("", "", 0);
        stopIs("", "wait;", 1);
        stopIs("", "wait;".repeat(40), 40);
        stopIs("plate 0 6 6;", "set 0;wait;", 0);
        stopIs("plate 0 6 6;", "wait;set 0;wait;set 0;", 1);
        stopIs("plate 0 6 6;", "run 0;".repeat(40), 40);
        stopIs("plate 0 6 6;", "run 0;".repeat(39) + "set 0;", 39);
    }

    private static void stopRefused() {
        DUE.says("Promise 8: NONE: there is none such (of either)");
        PlateRunner x = Given.show("", "wait;");
        DUE.is("there are", x.stop(0, 0), 1);
        for (int k : new int[] {-1, 1, 2}) {
            DUE.is("stage " + k, x.stop(k, 0), NONE);
            DUE.is("show " + k, x.stop(0, k), NONE);
        }
        for (int far : Given.FAR_OFF) DUE.is("stage " + far, x.stop(far, 0), NONE);
        for (int far : Given.FAR_OFF) DUE.is("show " + far, x.stop(0, far), NONE);
        Tape.tell(x, 0, NONE, "");
        DUE.is("the other stage", x.stop(1, 0), 1);
        DUE.is("the other show", x.stop(1, 1), NONE);
        Tape.tell(x, 1, NONE, "wait;wait;");
        DUE.is("the other show", x.stop(1, 1), 2);
    }

    private static void states() {
        DUE.says("A STATE is behind the first n DEEDS, n up to STOP. Promise 9: NONE: there is no such STATE");
        PlateRunner x = Given.show("plate 0 6 6;", "wait;wait;set 0;wait;");
        int[] dues = {NONE, 0, 1, 2, NONE, NONE, NONE};
        for (int n = -1; n <= 5; n++) DUE.is("beats behind " + n, x.state(0, 0, n, 0), dues[n + 1]);
        for (int far : Given.FAR_OFF) DUE.is("behind " + far, x.state(0, 0, far, 0), NONE);
        x = Given.show("", "wait;".repeat(40));
        DUE.is("behind 40", x.state(0, 0, 40, 0), 40);
        DUE.is("behind 41", x.state(0, 0, 41, 0), NONE);
        x = Given.show("start 7;", "");
        DUE.is("behind 0 of none", x.state(0, 0, 0, 1), 7);
        DUE.is("behind 1 of none", x.state(0, 0, 1, 1), NONE);
        DUE.says("A SHOW of a STAGE begins with the runner at START, no beat gone by");
        x = Given.show("start 9;plate 0 6 6;", "run 0;");
        DUE.is("beats", x.state(0, 0, 0, 0), 0);
        DUE.is("where he is", x.state(0, 0, 0, 1), 9);
        DUE.is("where he is", x.state(0, 0, 1, 1), 0);
    }

    private static void stateRefused() {
        DUE.says("Promise 9: 10 + k: LEFT of a PLATE (0, if it lies), 20 + k: its LIFE. NONE for another what");
        for (int plates = 0; plates <= 5; plates++) {
            PlateRunner x = Given.show("plate 0 5 1;".repeat(plates), "wait;");
            for (int k = 0; k < 10; k++) {
                DUE.is("left " + k, x.state(0, 0, 0, 10 + k), k < plates ? 1 : NONE);
                DUE.is("it lies " + k, x.state(0, 0, 1, 10 + k), k < plates ? 0 : NONE);
                DUE.is("life " + k, x.state(0, 0, 1, 20 + k), k < plates ? 5 : NONE);
                DUE.is("what " + (30 + k), x.state(0, 0, 1, 30 + k), NONE);
                if (k > 4) DUE.is("what " + k, x.state(0, 0, 1, k), NONE);
                DUE.is("what " + (-1 - k), x.state(0, 0, 1, -1 - k), NONE);
            }
            for (int far : Given.FAR_OFF) DUE.is("what " + far, x.state(0, 0, 0, far), NONE);
        }
        DUE.says("Promise 9: NONE: there is no such STATE (of no such STAGE or SHOW)");
        PlateRunner x = Given.show("", "");
        for (int k : new int[] {-1, 1, 2}) {
            DUE.is("stage " + k, x.state(k, 0, 0, 0), NONE);
            DUE.is("show " + k, x.state(0, k, 0, 0), NONE);
        }
        for (int far : Given.FAR_OFF) DUE.is("stage " + far, x.state(far, 0, 0, 0), NONE);
        for (int far : Given.FAR_OFF) DUE.is("show " + far, x.state(0, far, 0, 0), NONE);
    }

    private static void drawnRefused() {
        DUE.says("n times, 0 to 60. Promise 18: NONE: another n");
        PlateRunner x = Given.stage("start 3;plate 0 5 4;");
        DUE.is("0 times", x.drawn(0, 7, 0, 0), 0);
        DUE.is("where he is", x.drawn(0, 7, 0, 1), 3);
        DUE.is("left", x.drawn(0, 7, 0, 10), 4);
        DUE.is("60 times", x.drawn(0, 7, 60, 0) >= 0, true);
        DUE.is("61 times", x.drawn(0, 7, 61, 0), NONE);
        DUE.is("-1 times", x.drawn(0, 7, -1, 0), NONE);
        for (int far : Given.FAR_OFF) DUE.is("n " + far, x.drawn(0, 7, far, 0), NONE);
        DUE.says("Promise 18: NONE: there is none such");
        for (int far : Given.FAR_OFF) DUE.is("stage " + far, x.drawn(far, 7, 0, 0), NONE);
        DUE.is("stage 1", x.drawn(1, 7, 0, 0), NONE);
        DUE.is("stage -1", x.drawn(-1, 7, 0, 0), NONE);
        DUE.says("Promise 18: what as state(); NONE for another what");
        for (int what : new int[] {-1, 5, 9, 11, 14, 15, 19, 21, 24, 25, 30}) DUE.is("what " + what, x.drawn(0, 7, 1, what), NONE);
        for (int far : Given.FAR_OFF) DUE.is("what " + far, x.drawn(0, 7, 1, far), NONE);
        DUE.is("life", x.drawn(0, 7, 0, 20), 5);
        DUE.is("standing", x.drawn(0, 7, 0, 2), 1);
    }

    /** 2 to the power of 32 has no place in an int: the numbers below are the document's by long arithmetic. */
    private static void drawnWraps() {
        DUE.says("x becomes x * 1103515245 + 12345 (of 32 bits), it is x shifted right by 16 without sign");
        PlateRunner x = Given.stage("plate 0 6 6;plate 4 5 5;plate 9 6 5;");
        // 16838, below 10: 8, a wait.
        DUE.is("seed 1", x.drawn(0, 1, 1, 0), 1);
        // 2 * 1103515245 + 12345 is above 2 to the 31: 33676, 6: a gust; then 22817 below 3: 2.
        DUE.is("seed 2, beats", x.drawn(0, 2, 1, 0), 0);
        DUE.is("seed 2, a gust", x.drawn(0, 2, 1, 12), 4);
        // 4 * it is above 2 to the 32: 119106029, 1817, 7: oil; 56934 below 3: 0, which has LIFE 6: nothing.
        DUE.is("seed 4", x.drawn(0, 4, 1, 20), 6);
        // 58: 3874354411, 59117, 7: oil; 60595 below 3: 1.
        DUE.is("seed 58, oil", x.drawn(0, 58, 1, 21), 6);
        // -1 is 4294967295: 3191464396, 48697, 7: oil; 4409 below 3: 2.
        DUE.is("seed -1", x.drawn(0, -1, 1, 22), 6);
        DUE.is("seed -1, beats", x.drawn(0, -1, 1, 0), 0);
        // 2 to the 31: 2147495993, 32768, 8: a wait. 2 to the 31 less 1: 1043980748, 15929, 9: a wait.
        DUE.is("seed MIN", x.drawn(0, Integer.MIN_VALUE, 1, 0), 1);
        DUE.is("seed MAX", x.drawn(0, Integer.MAX_VALUE, 1, 0), 1);
        // All seeds alike by long arithmetic: the beats of the first drawn deed.
        for (int i = -300; i < 300; i++) {
            int seed = i * 715827883;
            long one = ((seed & 0xffffffffL) * 1103515245L + 12345L) % 4294967296L;
            long two = (one * 1103515245L + 12345L) % 4294967296L;
            long kind = one / 65536 % 10;
            long plate = two / 65536 % 3;
            int[] runBeats = {1, 3, 6};
            DUE.is("seed " + seed, x.drawn(0, seed, 1, 0), kind < 5 ? runBeats[(int) plate] : kind < 8 ? 0 : 1);
        }
    }

    private static void drawnIfItMay() {
        DUE.says("5: set, 7: oil; each, if it may");
        // Seed 3: 50515, 5: a set; 7107 below 1: 0, which stands: nothing is done.
        PlateRunner x = Given.stage("start 9;plate 0 6 6;");
        DUE.is("a set of one that stands", x.drawn(0, 3, 1, 0), 0);
        DUE.is("where he is", x.drawn(0, 3, 1, 1), 9);
        // Seed 4: oil at one of LIFE 6: nothing; at one of LIFE 5: 6.
        DUE.is("oil", x.drawn(0, 4, 1, 20), 6);
        DUE.is("oil", Given.stage("plate 0 5 5;").drawn(0, 4, 1, 20), 6);
        // Seed 9: 20473, 3: a run; 43923 below 1: 0.
        DUE.is("one plate", x.drawn(0, 9, 1, 1), 0);
        DUE.is("one plate", Given.stage("plate 0 5 5;").drawn(0, 9, 1, 0), 1);
        DUE.says("a PLATE, below all");
        // Seed 0: 0: a run; 54236 below 1, 2, 3, 4, 5: 0, 0, 2, 0, 1.
        int[] plates = {0, 0, 2, 0, 1};
        for (int many = 1; many <= 5; many++) {
            StringBuilder stage = new StringBuilder("speed 9;");
            for (int k = 0; k < many; k++) stage.append("plate " + k + " 6 6;");
            DUE.is("where he is, of " + many, Given.stage(stage.toString()).drawn(0, 0, 1, 1), plates[many - 1]);
        }
    }

    private static void drawnBare() {
        DUE.says("(Without PLATES 0 to 7 draw no more, nothing is done.)");
        PlateRunner x = Given.stage("start 4;");
        for (int seed = 0; seed < 50; seed++) {
            long now = seed;
            int waits = 0;
            for (int n = 1; n <= 60; n++) {
                now = (now * 1103515245L + 12345L) % 4294967296L;
                if (now / 65536 % 10 >= 8) waits++;
                if (n == 1 || n == 2 || n == 59 || n == 60) DUE.is("beats of " + seed + " behind " + n, x.drawn(0, seed, n, 0), waits);
            }
            DUE.is("where he is", x.drawn(0, seed, 60, 1), 4);
            DUE.is("standing", x.drawn(0, seed, 60, 2), 0);
            DUE.is("fell", x.drawn(0, seed, 60, 3), 0);
        }
    }

    private static void drawnToTheLastBeat() {
        DUE.says("each, if it may: not if behind it more than 99 beats had gone by");
        PlateRunner x = Given.stage("speed 1;plate 0 6 6;plate 9 6 6;plate 0 6 6;plate 9 6 6;plate 9 6 6;");
        int reached = 0;
        for (int seed = 0; seed < 3000; seed++) {
            int beats = x.drawn(0, seed, 60, 0);
            DUE.is("not above 99", beats <= 99, true);
            if (beats >= 90) reached++;
        }
        DUE.is("some come near", reached > 0, true);
    }

    private static void afterRefused() {
        DUE.says("Promise 20: -2: there is none such (of either), or for another what");
        PlateRunner x = Given.show("", "");
        for (int what = 0; what < 6; what++) {
            DUE.is("what " + what, x.after(0, 0, what) != -2, true);
            for (int k : new int[] {-1, 1, 2}) {
                DUE.is("stage " + k, x.after(k, 0, what), -2);
                DUE.is("show " + k, x.after(0, k, what), -2);
            }
        }
        DUE.is("what -1", x.after(0, 0, -1), -2);
        DUE.is("what 6", x.after(0, 0, 6), -2);
        for (int far : Given.FAR_OFF) {
            DUE.is("what " + far, x.after(0, 0, far), -2);
            DUE.is("stage " + far, x.after(far, 0, 0), -2);
            DUE.is("show " + far, x.after(0, far, 0), -2);
        }
    }

    private static void afterNothing() {
        DUE.says("FELL (none); SPUN (none: none), of a show in which nothing comes of it");
        afterIs("", "", NONE, 0, NONE, 0, 0, 0);
        afterIs("plate 0 6 6;", "", NONE, 0, NONE, 0, 0, 0);
        afterIs("plate 0 6 6;", "set 0;wait;", NONE, 0, NONE, 0, 0, 0);
        afterIs("", "wait;".repeat(40), NONE, 0, NONE, 40, 0, 0);
    }

    private static void afterUpToStop() {
        DUE.says("behind all DEEDS up to STOP");
        afterIs("speed 1;plate 3 6 6;", "wait;set 0;run 0;wait;wait;wait;wait;wait;wait;wait;", NONE, 0, NONE, 1, 0, 0);
        afterIs("plate 0 6 1;", "wait;gust 0;set 0;run 0;run 0;", 0, 0, NONE, 0, 0, 1);
    }

    private static void afterFell() {
        DUE.says("FELL: the DEED by which a PLATE FELL first");
        afterIs("plate 0 6 1;", "gust 0;wait;", 0);
        afterIs("plate 0 6 2;", "gust 0;gust 0;", 1);
        afterIs("plate 0 6 2;plate 0 6 1;", "run 1;run 1;run 1;", 1);
        afterIs("plate 0 6 6;", "run 0;".repeat(39) + "wait;", NONE);
        afterIs("plate 0 6 6;plate 0 1 1;", "run 1;".repeat(39) + "wait;", 5);
        afterIs("plate 0 1 1;", "run 0;".repeat(39) + "wait;", 39);
        afterIs("plate 0 6 1;", "wait;set 0;gust 0;gust 0;", 0);
        afterIs("speed 1;start 9;plate 0 6 6;", "run 0;", 0);
    }

    private static void afterSpun() {
        DUE.says("VAIN: how many runs were in vain; SPUN: the PLATE that was SPUN most, of several the least (none: none)");
        String stage = "plate 0 6 6;plate 0 6 6;plate 0 6 6;plate 0 6 6;plate 0 6 6;";
        afterIs(stage, "run 4;", NONE, 0, 4);
        afterIs(stage, "run 4;run 3;", NONE, 0, 3);
        afterIs(stage, "run 4;run 3;run 4;", NONE, 0, 4);
        afterIs(stage, "run 4;run 0;", NONE, 0, 0);
        DUE.says("SPUN: a run in vain spins none, nor does a set");
        afterIs("speed 1;plate 2 6 2;plate 2 6 6;", "run 0;", 0, 1, NONE);
        afterIs("speed 1;plate 2 6 2;plate 2 6 6;", "run 0;run 1;", 0, 1, 1);
        afterIs("plate 0 6 1;plate 0 6 6;", "wait;set 0;", 0, 0, NONE);
        afterIs("speed 1;plate 2 6 2;plate 0 6 2;plate 5 6 6;plate 9 6 6;", "run 0;run 3;", 0, 2, NONE);
    }

    private static void afterLongest() {
        DUE.says("LONGEST: the most beats, one behind the other, in which no PLATE FELL");
        afterIs("plate 0 6 1;", "wait;", 0, 0, NONE, 0);
        afterIs("plate 0 6 2;", "wait;wait;", 1, 0, NONE, 1);
        afterIs("plate 0 6 3;", "wait;wait;wait;wait;", 2, 0, NONE, 2);
        afterIs("plate 0 6 3;", "wait;".repeat(6), 2, 0, NONE, 3);
        // Over the ends of deeds: 2 beats waited and 3 run, plate 1 falls in the last of these.
        afterIs("speed 1;plate 2 6 6;plate 0 6 5;", "wait;wait;run 0;wait;", 2, 0, 0, 4);
        DUE.says("(by a gust one FALLS in no beat, between them)");
        afterIs("plate 0 6 1;plate 0 6 6;", "wait;gust 1;", 0, 0, NONE, 0, 0, 1);
        afterIs("plate 0 6 6;plate 0 6 3;", "wait;wait;gust 1;wait;wait;", 2, 0, NONE, 4, 0, 0);
        afterIs("plate 0 6 6;plate 0 6 3;", "wait;wait;wait;wait;wait;", 2, 0, NONE, 2, 0, 1);
    }

    private static void afterAnother() {
        DUE.says("Of a SHOW at a STAGE: of this one alone, whichever was asked for before");
        PlateRunner x = Given.show("speed 1;plate 0 6 2;plate 0 6 2;plate 5 6 6;", "run 0;run 2;wait;");
        Tape.tell(x, 1, NONE, "");
        Tape.tell(x, 0, NONE, "start 7;plate 7 6 6;plate 7 6 6;");
        int[] nothing = {NONE, 0, NONE, 0, 0, 0};
        // 1 falls in beat 2, 2 in beat 6, as he comes to it, 0 in beat 7.
        int[] much = {1, 1, 0, 3, 5, 1};
        for (int what = 0; what < 6; what++) {
            DUE.is("much " + what, x.after(0, 0, what), much[what]);
            DUE.is("nothing " + what, x.after(0, 1, what), nothing[what]);
            x.drawn(0, what, 60, 0);
            DUE.is("nothing " + what, x.after(1, 1, what), nothing[what]);
        }
        int[] dues = {0, 7, 3, 0, 0, 6, 6};
        for (int i = 0; i < dues.length; i++) {
            int what = i < 5 ? i : i + 5;
            x.after(0, 0, 0);
            DUE.is("state " + what, x.state(1, 1, 0, what), dues[i]);
            x.after(0, 0, 0);
            DUE.is("drawn " + what, x.drawn(1, 5, 0, what), dues[i]);
        }
    }

    private static void afterWaysAndMost() {
        DUE.says("WAYS: how many beats of WAY there were in all (of sets and of runs in vain, too)");
        afterIs("speed 1;plate 0 6 6;", "run 0;run 0;wait;", NONE, 0, 0, 3, 0);
        afterIs("speed 1;plate 2 6 2;", "run 0;", 0, 1, NONE, 1, 2);
        afterIs("speed 1;plate 4 6 1;", "wait;set 0;set 0;", 0, 0, NONE, 5, 4);
        // 1 falls in beat 6, 0 in beat 10, both while he is on his way to them.
        afterIs("speed 4;start 9;plate 0 6 6;plate 9 6 6;", "run 0;run 1;run 0;", 1, 2, 0, 5, 9, 1);
        DUE.says("MOST: the most PLATES that FELL in one beat");
        afterIs("plate 0 6 2;".repeat(5), "wait;", NONE, 0, NONE, 1, 0, 0);
        afterIs("plate 0 6 2;".repeat(5), "wait;wait;", 1, 0, NONE, 1, 0, 5);
        afterIs("plate 0 6 2;".repeat(5), "wait;gust 0;gust 1;gust 2;wait;", 1, 0, NONE, 1, 0, 2);
        afterIs("plate 0 6 1;plate 0 6 2;plate 0 6 2;plate 0 6 3;", "wait;wait;wait;", 0, 0, NONE, 0, 0, 2);
    }
}
