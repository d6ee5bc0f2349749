/** SAVE, DUEL and ODDS of Term 3, promises 13 to 15: each sentence that names an edge. */
public final class GameEdgesTest {
    private static final Due DUE = new Due();
    private static final int NONE = PlateRunner.NONE;
    private static final String TWINS = "plate 0 2 2;plate 0 2 2;";

    public static void main(String[] args) {
        saveOfNothing();
        saveBare();
        saveInAll();
        saveTheLeast();
        saveWaits();
        saveInVain();
        saveMost();
        saveRefused();
        duelOfNothing();
        duelBare();
        duelByTurns();
        duelTheLeast();
        duelWaits();
        duelRefused();
        oddsOfNothing();
        oddsForSure();
        oddsByTen();
        oddsInLeastTerms();
        oddsRefused();
        DUE.finish();
    }

    private static void saveIs(String stage, int n, int many, int first) {
        PlateRunner x = Given.stage(stage);
        DUE.is(stage + " save " + n, x.save(0, n, false), many);
        DUE.is(stage + " save first " + n, x.save(0, n, true), first);
    }

    private static void duelIs(String stage, int n, int many, int first) {
        PlateRunner x = Given.stage(stage);
        DUE.is(stage + " duel " + n, x.duel(0, n, false), many);
        DUE.is(stage + " duel first " + n, x.duel(0, n, true), first);
    }

    private static void saveOfNothing() {
        DUE.says("SAVE of n, 0 .. 6; Promise 13: what first (NONE: n is 0)");
        for (int plates = 0; plates <= 5; plates++) saveIs("plate 9 1 1;".repeat(plates), 0, plates, NONE);
    }

    private static void saveBare() {
        DUE.says("SAVE: (5: he waits), without PLATES");
        for (int n = 1; n <= 6; n++) saveIs("", n, 0, 5);
    }

    private static void saveInAll() {
        DUE.says("SAVE: n beats in all");
        // The way takes 2 beats and 1: a run is no choice before 3, and he waits.
        int[] firsts = {5, 5, 0, 0, 0, 0};
        for (int n = 1; n <= 6; n++) saveIs("speed 1;plate 2 6 6;", n, 1, firsts[n - 1]);
        // It falls in beat 6 unless a run of 6 beats ends in it.
        saveIs("speed 1;plate 5 6 6;", 5, 1, 5);
        saveIs("speed 1;plate 5 6 6;", 6, 1, 0);
        saveIs("speed 1;plate 6 6 6;", 6, 0, 5);
        saveIs("speed 1;plate 6 6 6;", 5, 1, 5);
    }

    private static void saveTheLeast() {
        DUE.says("SAVE: what the runner does first, the least PLATE that is best");
        saveIs("plate 0 6 6;plate 0 6 6;", 1, 2, 0);
        saveIs("plate 0 6 6;plate 0 6 1;", 1, 2, 1);
        saveIs("plate 0 6 1;plate 0 6 1;", 1, 1, 0);
        saveIs("plate 9 6 6;plate 9 6 6;plate 9 6 6;plate 9 6 6;plate 0 6 1;", 1, 5, 4);
        saveIs("plate 0 6 2;plate 0 6 1;", 2, 2, 1);
        saveIs("plate 0 1 1;plate 0 2 2;", 2, 1, 0);
    }

    private static void saveWaits() {
        DUE.says("SAVE: waits of one beat (5: he waits)");
        saveIs("speed 1;start 9;plate 0 6 2;", 1, 1, 5);
        saveIs("speed 1;start 9;plate 0 6 2;", 2, 0, 5);
        // A run takes 5 beats, by which it stands to the end; at once or behind a wait: the run comes first.
        saveIs("speed 1;plate 4 6 6;", 6, 1, 0);
    }

    private static void saveInVain() {
        DUE.says("SAVE: by whatever runs to PLATES that stand, in vain, too");
        saveIs("speed 1;plate 3 6 2;", 4, 0, 0);
        saveIs("speed 1;plate 3 6 2;", 3, 0, 5);
        DUE.says("SAVE: by whatever runs to PLATES that stand: not to one that lies");
        // 0 lies behind beat 1; what he does then has no part in the answer, but can be no run to 0.
        saveIs("plate 0 1 1;plate 9 6 6;", 1, 2, 0);
        saveIs("speed 9;plate 5 6 1;plate 0 6 6;", 1, 1, 1);
        saveIs("speed 9;plate 5 6 1;plate 0 6 6;", 2, 1, 0);
    }

    private static void saveMost() {
        DUE.says("SAVE of n up to 6: the most PLATES that stand behind them");
        saveIs("plate 0 6 6;".repeat(5), 6, 5, 0);
        saveIs("plate 0 6 5;".repeat(5), 6, 5, 0);
        // In 6 beats 6 runs: each of the five is spun, and the first of them again.
        saveIs("plate 0 5 5;".repeat(5), 6, 5, 0);
        saveIs("plate 0 4 4;".repeat(5), 6, 4, 0);
        saveIs("plate 0 1 1;".repeat(5), 6, 1, 0);
        saveIs(TWINS + "plate 0 2 2;", 6, 2, 0);
    }

    private static void saveRefused() {
        DUE.says("Promise 13: -9: another n, or there is none such");
        PlateRunner x = Given.stage(TWINS);
        for (boolean first : new boolean[] {false, true}) {
            DUE.is("n -1", x.save(0, -1, first), -9);
            DUE.is("n 7", x.save(0, 7, first), -9);
            for (int far : Given.FAR_OFF) DUE.is("n " + far, x.save(0, far, first), -9);
            for (int n = 0; n <= 6; n++) {
                DUE.is("stage 1", x.save(1, n, first), -9);
                DUE.is("stage -1", x.save(-1, n, first), -9);
            }
            for (int far : Given.FAR_OFF) DUE.is("stage " + far, x.save(far, 0, first), -9);
        }
    }

    private static void duelOfNothing() {
        DUE.says("DUEL of n, 0 .. 3; Promise 14: what first (NONE: n is 0)");
        for (int plates = 0; plates <= 5; plates++) duelIs("plate 9 1 1;".repeat(plates), 0, plates, NONE);
    }

    private static void duelBare() {
        DUE.says("DUEL: (5: he waits), without PLATES");
        for (int n = 1; n <= 3; n++) duelIs("", n, 0, 5);
    }

    private static void duelByTurns() {
        DUE.says("DUEL: by turns, the runner first, n times in all");
        // A plate of LIFE 1 stands behind his turn alone, falls by the rival's gust, and lies then.
        duelIs("plate 0 1 1;", 1, 1, 0);
        duelIs("plate 0 1 1;", 2, 0, 0);
        duelIs("plate 0 1 1;", 3, 0, 0);
        // LIFE 2: one gust leaves 1, his run behind it makes 2 of it again.
        duelIs("plate 0 2 2;", 2, 1, 0);
        duelIs("plate 0 2 2;", 3, 1, 0);
        // He waits or runs in vain for 10 beats: 6 LEFT less 1, 1 and 1 are 3.
        duelIs("speed 1;start 9;plate 0 6 6;", 3, 1, 5);
        duelIs("speed 1;start 9;plate 0 6 3;", 2, 1, 5);
        duelIs("speed 1;start 9;plate 0 6 3;", 3, 0, 0);
        DUE.says("DUEL: he runs to a PLATE that stands, as many beats as it takes");
        duelIs("speed 1;plate 5 6 6;plate 0 6 5;", 1, 2, 1);
        duelIs("speed 1;plate 5 6 6;", 1, 1, 0);
        duelIs("speed 1;plate 6 6 6;", 1, 1, 5);
        DUE.says("DUEL: the rival makes a gust at a PLATE that stands, or nothing");
        duelIs("plate 0 1 1;plate 0 1 1;", 2, 0, 0);
        duelIs("plate 0 6 6;plate 0 6 6;", 2, 2, 0);
    }

    private static void duelTheLeast() {
        DUE.says("DUEL: what the runner does first, the least PLATE that is best");
        duelIs("plate 0 6 6;plate 0 6 6;", 1, 2, 0);
        duelIs("plate 0 6 6;plate 0 6 1;", 1, 2, 1);
        duelIs("plate 0 6 1;plate 0 6 1;", 1, 1, 0);
        duelIs("plate 9 6 6;plate 9 6 6;plate 9 6 6;plate 9 6 6;plate 0 6 1;", 1, 5, 4);
        // 0 has 2 LEFT: behind a beat and a gust it would lie.
        duelIs("plate 0 6 6;plate 0 6 2;", 2, 2, 1);
    }

    private static void duelWaits() {
        DUE.says("DUEL: or waits a beat (5: he waits)");
        duelIs("speed 1;start 9;plate 0 6 2;", 1, 1, 5);
        duelIs("speed 1;start 9;plate 0 6 1;", 1, 0, 0);
        duelIs("speed 1;start 9;plate 0 6 2;plate 0 6 2;", 1, 2, 5);
    }

    private static void duelRefused() {
        DUE.says("Promise 14: -9: another n, or there is none such");
        PlateRunner x = Given.stage(TWINS);
        for (boolean first : new boolean[] {false, true}) {
            DUE.is("n -1", x.duel(0, -1, first), -9);
            DUE.is("n 4", x.duel(0, 4, first), -9);
            for (int far : Given.FAR_OFF) DUE.is("n " + far, x.duel(0, far, first), -9);
            for (int n = 0; n <= 3; n++) {
                DUE.is("stage 1", x.duel(1, n, first), -9);
                DUE.is("stage -1", x.duel(-1, n, first), -9);
            }
            for (int far : Given.FAR_OFF) DUE.is("stage " + far, x.duel(far, 0, first), -9);
        }
    }

    private static void oddsIs(int left, int p, int n, int over, int under) {
        PlateRunner x = Given.stage("plate 9 6 6;plate 0 6 " + left + ";");
        DUE.is("of " + left + ": odds " + p + " " + n, x.odds(0, 1, p, n, false), over);
        DUE.is("of " + left + ": odds under " + p + " " + n, x.odds(0, 1, p, n, true), under);
    }

    private static void oddsOfNothing() {
        DUE.says("ODDS: n, 0 .. 6: behind 0 beats it stands");
        for (int left = 1; left <= 6; left++) for (int p = 0; p <= 10; p++) oddsIs(left, p, 0, 1, 1);
    }

    private static void oddsForSure() {
        DUE.says("ODDS: p, 0 .. 10: 0 and 10 leave no choice");
        for (int left = 1; left <= 6; left++) {
            for (int n = 0; n <= 6; n++) {
                oddsIs(left, 0, n, n < left ? 1 : 0, 1);
                oddsIs(left, 10, n, 2 * n < left ? 1 : 0, 1);
            }
        }
    }

    private static void oddsByTen() {
        DUE.says("ODDS: in each beat the PLATE has 2 LEFT less in place of 1 by p of ten, by itself");
        oddsIs(2, 1, 1, 9, 10);
        oddsIs(2, 9, 1, 1, 10);
        oddsIs(1, 5, 1, 0, 1);
        oddsIs(3, 1, 2, 81, 100);
        // At most one of two beats takes 2: 1 less 9 by 100.
        oddsIs(4, 3, 2, 91, 100);
        oddsIs(5, 3, 2, 1, 1);
        oddsIs(6, 1, 5, 59049, 100000);
        oddsIs(6, 9, 5, 1, 100000);
        oddsIs(6, 1, 6, 0, 1);
        // Of three beats at most two take 2: 1 less 27 by 1000.
        oddsIs(6, 3, 3, 973, 1000);
    }

    private static void oddsInLeastTerms() {
        DUE.says("ODDS: a fraction in least terms");
        oddsIs(2, 5, 1, 1, 2);
        oddsIs(2, 2, 1, 4, 5);
        oddsIs(6, 5, 5, 1, 32);
        oddsIs(6, 2, 5, 1024, 3125);
        // Of four beats at most one takes 2: 5 of 16.
        oddsIs(6, 5, 4, 5, 16);
        oddsIs(3, 4, 2, 9, 25);
    }

    private static void oddsRefused() {
        DUE.says("Promise 15: NONE: other numbers, or there is none such (of either)");
        for (int plates = 0; plates <= 5; plates++) {
            PlateRunner x = Given.stage("plate 0 6 6;".repeat(plates));
            for (boolean under : new boolean[] {false, true}) {
                for (int k = -2; k <= 7; k++) DUE.is("plate " + k, x.odds(0, k, 0, 0, under), k >= 0 && k < plates ? 1 : NONE);
                for (int far : Given.FAR_OFF) DUE.is("plate " + far, x.odds(0, far, 0, 0, under), NONE);
                DUE.is("stage 1", x.odds(1, 0, 0, 0, under), NONE);
                DUE.is("stage -1", x.odds(-1, 0, 0, 0, under), NONE);
                for (int far : Given.FAR_OFF) DUE.is("stage " + far, x.odds(far, 0, 0, 0, under), NONE);
                DUE.is("p -1", x.odds(0, 0, -1, 0, under), NONE);
                DUE.is("p 11", x.odds(0, 0, 11, 0, under), NONE);
                DUE.is("n -1", x.odds(0, 0, 0, -1, under), NONE);
                DUE.is("n 7", x.odds(0, 0, 0, 7, under), NONE);
                for (int far : Given.FAR_OFF) DUE.is("p " + far, x.odds(0, 0, far, 0, under), NONE);
                for (int far : Given.FAR_OFF) DUE.is("n " + far, x.odds(0, 0, 0, far, under), NONE);
            }
        }
    }
}
