/** Term 3 up to NEED, promises 10 to 12: each sentence that names an edge. */
public final class KeepEdgesTest {
    private static final Due DUE = new Due();
    private static final int NONE = PlateRunner.NONE;
    private static final String BARE = "";
    private static final String TWINS = "plate 0 2 2;plate 0 2 2;";
    /** Too far for either: 10 beats by SPEED 1. */
    private static final String FAR = "speed 1;start 9;plate 0 6 6;plate 0 6 6;";
    /** Seen every 4 beats by SPEED 9, every 6 by SPEED 5 to 8. */
    private static final String APART = "speed 9;plate 0 4 4;plate 9 4 4;";

    public static void main(String[] args) {
        withoutPlates();
        justInTime();
        oneMustFall();
        lasts();
        rowOfForever();
        startIsUnlike();
        aheadOfTheRound();
        rowOfOneThatEnds();
        doingNothing();
        upToNinetyNine();
        keepRefused();
        speeds();
        starts();
        leave();
        spare();
        reached();
        needs();
        moves();
        needRefused();
        behindKept();
        behindLasts();
        behindRefused();
        asTold();
        DUE.finish();
    }

    private static void keepIs(String stage, int... dues) {
        PlateRunner x = Given.stage(stage);
        for (int i = 0; i < dues.length; i++) {
            int what = i < 6 ? i : i + 4;
            DUE.is(stage + " keep " + what, x.keep(0, what), dues[i]);
        }
    }

    private static void needIs(String stage, int what, int due) {
        DUE.is(stage + " need " + what, Given.stage(stage).need(0, what), due);
    }

    private static void withoutPlates() {
        DUE.says("FOREVER (without PLATES 1); Promise 10: NONE: no PLATES");
        for (String stage : new String[] {BARE, "speed 1;start 9;"}) {
            keepIs(stage, 1, NONE, NONE, NONE, NONE, NONE);
            PlateRunner x = Given.stage(stage);
            for (int k = 0; k <= 99; k++) DUE.is("row " + k, x.keep(0, 10 + k), NONE);
        }
    }

    private static void justInTime() {
        DUE.says("A KEPT row is one of runs by which no PLATE FALLS (the one run to does not in the last beat)");
        for (int way = 0; way <= 5; way++) {
            String place = "speed 1;plate " + way + " 6 ";
            keepIs(place + (way + 1) + ";", 1, NONE, 1, 1, 1, NONE, 0, 0);
            if (way > 0) keepIs(place + way + ";", 0, way, NONE, NONE, NONE, 0, NONE);
        }
        keepIs("plate 0 1 1;", 1, NONE, 1, 1, 1, NONE, 0, 0);
    }

    private static void oneMustFall() {
        DUE.says("by which no PLATE FALLS: of the others none in the last beat either");
        keepIs("plate 0 1 1;plate 0 1 1;", 0, 1, NONE, NONE, NONE, 0, NONE);
        keepIs("plate 0 6 6;plate 0 1 1;plate 0 1 1;", 0, 1, NONE, NONE, NONE, 0, NONE);
        // 1 can wait a beat, 0 can't, and must be run to in each.
        keepIs("plate 0 1 1;plate 0 6 2;", 0, 2, NONE, NONE, NONE, 1, 0, NONE);
        keepIs(TWINS, 1, NONE, 1, 2, 2, NONE, 0, 1, 0, 1);
        keepIs(TWINS + "plate 0 2 2;", 0, 2, NONE, NONE, NONE, 0, NONE);
        keepIs("plate 0 5 5;".repeat(5), 1, NONE, 4, 5, 5, NONE);
        keepIs("plate 0 4 4;".repeat(5), 0, 4, NONE, NONE, NONE, 0, NONE);
    }

    private static void lasts() {
        DUE.says("LASTS: the most beats until the first PLATE FALLS (that in which it does, too)");
        for (int left = 1; left <= 6; left++) {
            keepIs("speed 1;start 9;plate 0 6 " + left + ";", 0, left);
            keepIs("speed 1;start 9;plate 0 6 6;plate 0 6 " + left + ";", 0, left);
        }
        DUE.says("LASTS: those of a KEPT row and, nothing being done behind it, all that follow");
        // Runs to 0 in each beat, as often as 1 stands without: it falls in its last.
        for (int left = 2; left <= 6; left++) keepIs("speed 1;plate 0 1 1;plate 9 6 " + left + ";", 0, left, NONE, NONE, NONE, left - 1);
        DUE.says("Promise 10: 1: LASTS (NONE: FOREVER)");
        keepIs("plate 0 6 6;", 1, NONE);
    }

    private static void rowOfForever() {
        DUE.says("ROW: if FOREVER: always the run to the least PLATE behind which it is FOREVER still");
        keepIs("plate 0 6 6;plate 0 6 6;", 1, NONE, 1, 6, 6, NONE, 0, 0, 0, 0, 0, 1, 0, 0, 0, 0, 0, 1);
        keepIs("plate 0 6 6;plate 0 1 1;", 0, 6, NONE, NONE, NONE, 5, 1, 1, 1, 1, 1, NONE);
        keepIs("plate 0 6 1;plate 0 6 2;", 1, NONE, 1, 6, 6, NONE, 0, 1, 0, 0, 0, 0, 0, 1);
        DUE.says("Promise 10: 5: how many runs ROW has, if it is not FOREVER (NONE: it is)");
        // A run to 0, where he is, can be made twice; then 1 has 2 LEFT, as many as it needs.
        keepIs(APART, 1, NONE, 2, 2, 4, NONE, 0, 0, 1, 0, 1, 0);
    }

    private static void startIsUnlike() {
        DUE.says("a STAND is where the runner is (at which PLATE, or at START, which is unlike any of these)");
        for (int place = 0; place <= 9; place++) keepIs("start " + place + ";plate " + place + " 6 6;", 1, NONE, 1, 1, 1, NONE);
        needIs("start 5;plate 5 6 6;", 5, 2);
        needIs("start 5;plate 5 6 6;", 6, 2);
        // At START, at 0 and at 1, one place though it is.
        needIs(TWINS, 5, 3);
    }

    private static void aheadOfTheRound() {
        DUE.says("AHEAD: how many runs there are ahead of the first STAND that comes again; ROUND: behind how many runs it does; BEATS: how many beats these take");
        // By SPEED 1 one beat off: 2 beats the first run, 1 each of the others.
        keepIs("speed 1;plate 1 6 6;", 1, NONE, 1, 1, 1, NONE);
        // 0 is where he begins, with 1 LEFT; from 1 on, 2 beats each.
        keepIs("speed 1;plate 0 4 1;plate 1 4 3;", 1, NONE, 1, 2, 4, NONE, 0, 1, 0, 1);
        keepIs(APART, 1, NONE, 2, 2, 4, NONE);
    }

    private static void rowOfOneThatEnds() {
        DUE.says("If it is not FOREVER: a KEPT row by which LASTS, always the run to the least PLATE by which it can be so");
        keepIs("plate 0 1 1;plate 0 6 3;", 0, 3, NONE, NONE, NONE, 2, 0, 0, NONE, NONE);
        // The twins take all beats, by turns; 2 falls in beat 6.
        keepIs(TWINS + "plate 0 6 6;", 0, 6, NONE, NONE, NONE, 5, 0, 1, 0, 1, 0, NONE);
        keepIs("plate 0 6 6;plate 0 1 1;", 0, 6, NONE, NONE, NONE, 5, 1, 1, 1, 1, 1, NONE);
    }

    private static void doingNothing() {
        DUE.says("as long as by doing nothing it could not");
        keepIs(FAR, 0, 6, NONE, NONE, NONE, 0, NONE);
        // A run to 0 would be kept, but 1 falls in beat 3 either way.
        PlateRunner x = Given.stage("speed 1;plate 0 6 6;plate 9 6 3;");
        DUE.is("kept", x.behind(0, 0, 0), 1);
        keepIs("speed 1;plate 0 6 6;plate 9 6 3;", 0, 3, NONE, NONE, NONE, 0, NONE);
        // 0 falls in beat 2 unless it is run to, 1 in beat 3 in any case.
        keepIs("speed 1;plate 0 6 2;plate 9 6 3;", 0, 3, NONE, NONE, NONE, 1, 0, NONE);
    }

    private static void upToNinetyNine() {
        DUE.says("Promise 10: 10 + k: the k-th of ROW, k up to 99 (NONE: not so many)");
        PlateRunner x = Given.stage(TWINS);
        for (int k = 0; k <= 99; k++) DUE.is("row " + k, x.keep(0, 10 + k), k % 2);
        x = Given.stage("plate 0 1 1;plate 0 6 4;");
        for (int k = 0; k <= 99; k++) DUE.is("row " + k, x.keep(0, 10 + k), k < 3 ? 0 : NONE);
        DUE.is("its runs", x.keep(0, 5), 3);
    }

    private static void keepRefused() {
        DUE.says("Promise 10: -2: there is none such, or for another what");
        for (String stage : new String[] {BARE, TWINS, FAR}) {
            PlateRunner x = Given.stage(stage);
            for (int what : new int[] {-1, 6, 7, 8, 9, 110, 111}) DUE.is("what " + what, x.keep(0, what), -2);
            for (int far : Given.FAR_OFF) DUE.is("what " + far, x.keep(0, far), -2);
            for (int what = 0; what < 12; what++) {
                DUE.is("stage 1", x.keep(1, what), -2);
                DUE.is("stage -1", x.keep(-1, what), -2);
            }
            for (int far : Given.FAR_OFF) DUE.is("stage " + far, x.keep(far, 0), -2);
        }
    }

    private static void speeds() {
        DUE.says("SPEEDS: the least SPEED, 1 .. 9, by which it is FOREVER, all else as told (none: none)");
        needIs(BARE, 0, 1);
        needIs("speed 9;plate 0 1 1;", 0, 1);
        needIs(APART, 0, 9);
        needIs("speed 1;plate 0 4 4;plate 9 4 4;", 0, 9);
        needIs("plate 0 3 3;plate 9 3 3;", 0, NONE);
        needIs("plate 0 6 6;plate 9 6 6;", 0, 5);
        needIs("plate 9 6 1;", 0, NONE);
        needIs("plate 9 6 2;", 0, 9);
        needIs("plate 8 6 2;", 0, 8);
        DUE.says("SPEEDS, all else as told: the stage is as it was");
        PlateRunner x = Given.stage(APART);
        x.need(0, 0);
        DUE.is("speed", x.stage(0, 0), 9);
        DUE.is("for ever", x.keep(0, 0), 1);
    }

    private static void starts() {
        DUE.says("STARTS: places (bits, 0 .. 9) which, being START, make it FOREVER");
        needIs(BARE, 1, 1023);
        needIs("start 5;plate 0 6 1;", 1, 1);
        needIs("start 5;plate 9 6 1;", 1, 512);
        needIs("speed 1;plate 4 6 2;", 1, 0b111000);
        needIs("speed 9;plate 0 6 6;", 1, 1023);
        needIs("speed 9;plate 0 6 2;", 1, 1023);
        needIs("speed 8;plate 0 6 2;", 1, 511);
        needIs("plate 0 1 1;plate 0 1 1;", 1, 0);
    }

    private static void leave() {
        DUE.says("LEAVE: the most PLATES that, the others being away, are FOREVER: how many; which (bits), of several the least");
        int[][] dues = {{0, 0}, {0, 0}, {2, 3}, {2, 3}, {1, 1}, {2, 6}, {1, 2}, {5, 31}, {4, 15}};
        String[] stages = {BARE, FAR, TWINS, TWINS + "plate 0 2 2;", "plate 0 1 1;plate 0 1 1;plate 0 1 1;",
            "plate 9 6 1;" + TWINS, "plate 9 6 1;plate 0 1 1;", "plate 0 5 5;".repeat(5), "plate 0 4 4;".repeat(5)};
        for (int i = 0; i < stages.length; i++) {
            needIs(stages[i], 2, dues[i][0]);
            needIs(stages[i], 3, dues[i][1]);
        }
    }

    private static void spare() {
        DUE.says("SPARE: PLATES (bits) each of which alone, being away, makes the others FOREVER");
        needIs(BARE, 4, 0);
        needIs("plate 9 6 1;", 4, 1);
        needIs("plate 0 6 6;", 4, 1);
        needIs(TWINS, 4, 3);
        needIs(TWINS + "plate 0 2 2;", 4, 7);
        needIs(TWINS + "plate 9 6 1;", 4, 4);
        needIs(FAR, 4, 0);
        needIs("plate 0 4 4;".repeat(5), 4, 31);
        needIs("plate 0 3 3;".repeat(5), 4, 0);
    }

    private static void reached() {
        DUE.says("REACHED: how many unlike STANDS KEPT rows lead to, the first one, too; SAFE: of how many of these it is FOREVER");
        int[][] dues = {{1, 1}, {1, 0}, {2, 2}, {3, 3}, {3, 0}, {1, 0}};
        String[] stages = {BARE, FAR, "plate 0 6 6;", TWINS, "plate 0 1 1;plate 0 6 3;", "plate 0 1 1;plate 0 1 1;"};
        for (int i = 0; i < stages.length; i++) {
            needIs(stages[i], 5, dues[i][0]);
            needIs(stages[i], 6, dues[i][1]);
        }
        // Behind two runs to one of the twins but for LIFE 3 the other has 1 LEFT; a third is not kept.
        needIs("plate 0 3 3;plate 0 3 3;", 5, 5);
        needIs("plate 0 3 3;plate 0 3 3;", 6, 5);
        // The first, a run to 0 at once (1 and 2 fall together behind it), and 0 with 5 to 1 LEFT, at 1 or at 2.
        needIs("plate 0 6 6;" + TWINS, 5, 12);
        needIs("plate 0 6 6;" + TWINS, 6, 0);
        DUE.says("the most STANDS that there are");
        needIs("plate 0 6 6;".repeat(5), 5, 1426);
        // Those of which the plate that is to fall as the k-th has at least k LEFT.
        needIs("plate 0 6 6;".repeat(5), 6, 911);
    }

    private static void needs() {
        DUE.says("NEED of a PLATE: the least LIFE, 1 .. 6, of it by which it is FOREVER (none: none)");
        needIs("plate 0 6 6;", 10, 1);
        needIs(TWINS, 10, 2);
        needIs(TWINS, 11, 2);
        needIs("plate 0 1 1;plate 0 1 1;", 10, NONE);
        needIs("speed 8;plate 0 6 6;plate 9 6 6;", 10, 6);
        needIs("speed 8;plate 0 6 6;plate 9 6 6;", 11, 6);
        needIs("plate 0 5 5;plate 0 5 5;plate 0 5 5;plate 0 5 5;plate 0 6 6;", 14, 5);
        DUE.says("NEED: (its LEFT being that, if it were above it, else as told)");
        // Two beats off: by LIFE 1, LEFT is 1, too little; by 2 it is just enough.
        needIs("plate 2 6 6;", 10, 2);
        needIs("plate 2 6 2;", 10, 2);
        needIs("plate 2 6 1;", 10, NONE);
        needIs("plate 2 1 1;", 10, NONE);
        needIs("plate 2 2 2;", 10, 2);
        needIs("speed 1;plate 5 6 6;", 10, 6);
        needIs("speed 1;plate 5 6 5;", 10, NONE);
    }

    private static void moves() {
        DUE.says("MOVES of a PLATE: places (bits, 0 .. 9) which, being its PLACE, make it FOREVER");
        needIs("speed 9;plate 0 6 6;", 20, 1023);
        needIs("speed 9;plate 0 6 2;", 20, 1023);
        needIs("speed 8;plate 0 6 2;", 20, 511);
        needIs("start 9;plate 0 6 1;", 20, 512);
        needIs("start 0;plate 9 6 1;", 20, 1);
        needIs("plate 0 1 1;plate 0 1 1;", 20, 0);
        needIs("plate 0 1 1;plate 0 1 1;", 21, 0);
        needIs("plate 9 2 2;plate 0 2 2;", 20, 1);
        needIs("plate 0 2 2;plate 9 2 2;", 21, 1);
        needIs("plate 9 2 2;plate 0 2 2;", 21, 0);
        needIs("speed 1;" + "plate 0 5 5;".repeat(4) + "plate 1 5 5;", 24, 1);
    }

    private static void needRefused() {
        DUE.says("Promise 11: -2: there is none such (of either), or for another what");
        for (int plates = 0; plates <= 5; plates++) {
            PlateRunner x = Given.stage("plate 0 6 6;".repeat(plates));
            // Seen in every second beat, it leaves 3 of 6 for the others; in every third, 4.
            int life = new int[] {0, 1, 2, 2, 2, 3}[plates];
            for (int what = 7; what < 10; what++) DUE.is("what " + what, x.need(0, what), -2);
            for (int k = 0; k < 10; k++) {
                if (k < plates) DUE.is("need " + k, x.need(0, 10 + k), life);
                else DUE.is("need " + k, x.need(0, 10 + k), -2);
                if (k < plates) DUE.is("moves " + k, (x.need(0, 20 + k) & 1) == 1, true);
                else DUE.is("moves " + k, x.need(0, 20 + k), -2);
                DUE.is("what " + (30 + k), x.need(0, 30 + k), -2);
                DUE.is("what " + (-1 - k), x.need(0, -1 - k), -2);
            }
            for (int far : Given.FAR_OFF) DUE.is("what " + far, x.need(0, far), -2);
            for (int what = 0; what < 26; what++) {
                DUE.is("stage 1", x.need(1, what), -2);
                DUE.is("stage -1", x.need(-1, what), -2);
            }
            for (int far : Given.FAR_OFF) DUE.is("stage " + far, x.need(far, 0), -2);
        }
    }

    private static void asTold() {
        DUE.says("(Of a STAGE as told.): whatever was asked before");
        String[] stages = {BARE, TWINS, FAR, APART, "plate 0 1 1;plate 0 6 4;", "plate 0 6 6;" + TWINS, "plate 0 6 1;plate 0 6 2;"};
        for (String one : stages) {
            for (String other : stages) {
                PlateRunner x = Given.stage(one);
                Tape.tell(x, 0, NONE, other);
                PlateRunner fresh = Given.stage(one);
                for (int what = 0; what < 25; what++) {
                    x.need(1, what);
                    x.keep(1, what % 6);
                    x.load(1, 5 + what % 8);
                    String t = one + " beside " + other + " ";
                    DUE.is(t + "keep " + what, x.keep(0, what), Given.stage(one).keep(0, what));
                    x.need(0, what);
                    DUE.is(t + "behind " + what, x.behind(0, what / 3, what % 3), fresh.behind(0, what / 3, what % 3));
                    x.load(0, 5 + what % 8);
                    DUE.is(t + "reached", x.need(0, 5), fresh.need(0, 5));
                    DUE.is(t + "need " + what, x.need(0, what), Given.stage(one).need(0, what));
                    DUE.is(t + "safe", x.need(0, 6), fresh.need(0, 6));
                }
            }
        }
    }

    private static void behindIs(String stage, int plate, int... dues) {
        PlateRunner x = Given.stage(stage);
        for (int what = 0; what < 3; what++) DUE.is(stage + " behind " + plate + " " + what, x.behind(0, plate, what), dues[what]);
    }

    private static void behindKept() {
        DUE.says("BEHIND of a PLATE: whether a run to it, made at once, is KEPT. Promise 12: -2: it is not KEPT (1, 2)");
        for (int left = 1; left <= 6; left++) {
            // Two beats of way, and 1: the plate itself needs 3 LEFT, another one 4.
            behindIs("speed 1;plate 2 6 " + left + ";", 0, left >= 3 ? 1 : 0, left >= 3 ? 1 : -2, left >= 3 ? NONE : -2);
            PlateRunner x = Given.stage("speed 1;plate 2 6 6;plate 2 6 " + left + ";");
            DUE.is("beside one of " + left, x.behind(0, 0, 0), left >= 4 ? 1 : 0);
            DUE.is("beside one of " + left, x.behind(0, 0, 1), left >= 4 ? 1 : -2);
            DUE.is("beside one of " + left, x.behind(0, 0, 2), left >= 4 ? NONE : -2);
        }
        behindIs("plate 0 1 1;plate 0 1 1;", 0, 0, -2, -2);
        behindIs(TWINS, 0, 1, 1, NONE);
        behindIs(TWINS, 1, 1, 1, NONE);
    }

    private static void behindLasts() {
        DUE.says("whether it is FOREVER behind it, and LASTS behind it, these beats being none of them. Promise 12: LASTS (NONE: FOREVER)");
        for (int left = 2; left <= 6; left++) behindIs("speed 1;plate 0 1 1;plate 9 6 " + left + ";", 0, 1, 0, left - 1);
        // Two beats and 1 go by on the way to 0; 1 has 1 LEFT then.
        behindIs("speed 1;plate 2 6 6;plate 9 6 4;", 0, 1, 0, 1);
        behindIs("speed 1;plate 2 6 6;plate 9 6 6;", 0, 1, 0, 3);
        // Behind a run to 0 both others have 1 LEFT; behind one to 1 they can be kept up until 0 falls.
        behindIs("plate 0 6 6;" + TWINS, 0, 1, 0, 1);
        behindIs("plate 0 6 6;" + TWINS, 1, 1, 0, 5);
    }

    private static void behindRefused() {
        DUE.says("Promise 12: -2: there is none such (of either), or for another what");
        for (int plates = 0; plates <= 5; plates++) {
            PlateRunner x = Given.stage("plate 0 6 6;".repeat(plates));
            for (int what = -2; what <= 4; what++) {
                for (int k = -2; k <= 7; k++) {
                    boolean there = k >= 0 && k < plates && what >= 0 && what <= 2;
                    DUE.is("behind " + k + " " + what, x.behind(0, k, what), !there ? -2 : what == 2 ? NONE : 1);
                }
                DUE.is("stage 1", x.behind(1, 0, what), -2);
                DUE.is("stage -1", x.behind(-1, 0, what), -2);
            }
            for (int far : Given.FAR_OFF) {
                DUE.is("stage " + far, x.behind(far, 0, 0), -2);
                DUE.is("plate " + far, x.behind(0, far, 0), -2);
                DUE.is("what " + far, x.behind(0, 0, far), -2);
            }
        }
    }
}
