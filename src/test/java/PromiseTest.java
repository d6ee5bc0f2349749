/** Each promise by hand: ordinary inputs, the edges that the document names, wrong inputs. */
public final class PromiseTest {
    private static final Due DUE = new Due();
    private static final int NONE = PlateRunner.NONE;
    private static final String THREE = "speed 2;start 0;plate 0 3 3;plate 2 4 2;plate 1 6 6;";
    private static final String TWINS = "plate 0 2 2;plate 0 2 2;";
    private static final String FAR = "speed 1;start 9;plate 0 1 1;plate 9 6 6;";
    private static final String SHOW = "run 1;wait;set 0;gust 2;oil 1;run 1;run 0;run 0;";

    private static PlateRunner with(String stage) {
        PlateRunner x = new PlateRunner();
        DUE.is("told " + stage, Tape.tell(x, 0, NONE, stage), 0);
        return x;
    }

    private static PlateRunner with(String stage, int sort, String other) {
        PlateRunner x = with(stage);
        DUE.is("told " + other, Tape.tell(x, sort, NONE, other), 0);
        return x;
    }

    public static void main(String[] args) {
        newObject();
        feedAndEnd();
        textAndFault();
        faults();
        stage();
        deed();
        stopAndState();
        limitOfBeats();
        keep();
        stagesToldAnew();
        need();
        behind();
        save();
        duel();
        odds();
        log();
        fits();
        drawn();
        load();
        after();
        least();
        images();
        wildNumbers();
        DUE.finish();
    }

    private static void newObject() {
        PlateRunner x = new PlateRunner();
        DUE.is("NONE", NONE, -1);
        for (int sort = 0; sort < 3; sort++) DUE.is("count", x.count(sort), 0);
        DUE.is("count 3", x.count(3), -2);
        DUE.is("count -1", x.count(-1), -2);
        DUE.is("fault", x.fault(0), 0);
        DUE.is("place", x.fault(1), NONE);
        DUE.is("fault 2", x.fault(2), NONE);
        for (int k = -1; k < 4; k++) DUE.is("again", x.again(k), false);
        DUE.is("end 0", x.end(0), 0);
        DUE.is("end 1", x.end(1), NONE);
    }

    private static void feedAndEnd() {
        PlateRunner x = new PlateRunner();
        for (int i = 1; i <= 30; i++) DUE.is("feed", x.feed(0, 0, 0, 0, 0), 20 * i);
        DUE.is("feed, full", x.feed(0, 0, 0, 0, 0), NONE);
        DUE.is("end 601", x.end(601), NONE);
        DUE.is("end -1", x.end(-1), NONE);
        DUE.is("end 581", x.end(581), 581);
        DUE.is("feed above", x.feed(1, 1, 1, 1, 1), NONE);
        DUE.is("end 580", x.end(580), 580);
        DUE.is("feed up to", x.feed(0, 0, 0, 0, 0), 600);
        x.end(0);
        x.feed(0x73706565, 0x6420373b, 0x73746172, 0x7420383b, 0x20202020); // "speed 7;start 8;    "
        DUE.is("text", x.text(0, NONE), 0);
        DUE.is("highest first", x.stage(0, 0), 7);
        DUE.is("number by number", x.stage(0, 1), 8);
    }

    private static void textAndFault() {
        PlateRunner x = new PlateRunner();
        DUE.is("empty stage", Tape.tell(x, 0, NONE, ""), 0);
        DUE.is("speed at first", x.stage(0, 0), 2);
        DUE.is("further", Tape.tell(x, 0, NONE, "speed 5;"), 1);
        DUE.is("no room", Tape.tell(x, 0, NONE, "speed 6;;"), -2);
        DUE.is("no fault", x.fault(0), 0);
        DUE.is("the tape is empty", x.end(1), NONE);
        DUE.is("in place", Tape.tell(x, 0, 1, "speed 4;"), 1);
        DUE.is("its speed", x.stage(1, 0), 4);
        DUE.is("a fault", Tape.tell(x, 0, 1, "speed 3;;"), NONE);
        DUE.is("the tape is empty", x.end(1), NONE);
        DUE.is("fault", x.fault(0), 1);
        DUE.is("place", x.fault(1), 8);
        DUE.is("as before", x.stage(1, 0), 4);
        DUE.is("none such", Tape.tell(x, 0, 2, "speed 3;"), -2);
        DUE.is("no fault", x.fault(0), 0);
        DUE.is("no place", x.fault(1), NONE);
        DUE.is("none such", Tape.tell(x, 1, 0, "wait;"), -2);
        DUE.is("none such", Tape.tell(x, 0, -2, "speed 3;"), -2);
        DUE.is("no such sort", Tape.tell(x, 3, NONE, "speed 3;"), -2);
        DUE.is("no such sort", Tape.tell(x, -1, NONE, "speed 3;"), -2);
        DUE.is("the tape is empty", x.end(1), NONE);
        DUE.is("count", x.count(0), 2);
        DUE.is("a fault tells none", Tape.tell(x, 1, NONE, "wait"), NONE);
        DUE.is("count", x.count(1), 0);
        DUE.is("shows", Tape.tell(x, 1, NONE, "wait;"), 0);
        DUE.is("shows", Tape.tell(x, 1, NONE, "wait;"), 1);
        DUE.is("shows", Tape.tell(x, 1, NONE, "wait;"), -2);
        DUE.is("logs", Tape.tell(x, 2, NONE, "runs 0;"), 0);
        DUE.is("logs", Tape.tell(x, 2, NONE, "runs 0;"), 1);
        DUE.is("logs", Tape.tell(x, 2, NONE, "runs 0;"), -2);
    }

    private static void fault(int sort, String text, int fault, int place) {
        PlateRunner x = new PlateRunner();
        DUE.is(text, Tape.tell(x, sort, NONE, text), fault == 0 ? 0 : NONE);
        DUE.is(text + " fault", x.fault(0), fault);
        DUE.is(text + " place", x.fault(1), place);
    }

    private static void faults() {
        fault(0, "speed 0;", 2, 6);
        fault(0, "speed 10;", 2, 6);
        fault(0, "speed 9;", 0, NONE);
        fault(0, "speed 100;", 1, 6);
        fault(0, "speed 09;", 0, NONE);
        fault(0, "start 10;", 2, 6);
        fault(0, "plate 10 1 1;", 2, 6);
        fault(0, "plate 0 7 1;", 2, 8);
        fault(0, "plate 0 0 1;", 2, 8);
        fault(0, "plate 0 3 4;", 2, 10);
        fault(0, "plate 0 6 0;", 2, 10);
        fault(0, "plate 0 6 7;", 2, 10);
        fault(0, "speed2;start3;plate 0 1 1 ;\n ", 0, NONE);
        fault(0, "speed 0;speed", 1, 13);
        fault(0, "speed 0;speed  ", 1, 15);
        fault(0, "speed 0;wait;", 1, 8);
        fault(0, "speed 0;A", 1, 8);
        fault(0, "speed\t1;", 1, 5);
        fault(0, "speeds 1;", 1, 0);
        fault(0, " plate 0 1;", 1, 10);
        fault(0, ";", 1, 0);
        fault(0, "1", 1, 0);
        fault(0, "\u00ff", 1, 0);
        String plate = "plate 0 1 1;";
        fault(0, plate + plate + plate + plate + plate, 0, NONE);
        fault(0, plate + plate + plate + plate + plate + plate, 3, 60);
        fault(0, plate + plate + plate + plate + plate + "plate 0 7 1;", 3, 60);
        fault(0, plate + plate + plate + plate + "plate 0 7 1;" + plate, 2, 56);
        fault(0, plate + plate + plate + plate + plate + plate + "x", 1, 72);
        fault(1, "run 5;", 2, 4);
        fault(1, "wait 1;", 1, 5);
        fault(1, "set;", 1, 3);
        fault(1, "runs 1;", 1, 0);
        fault(1, "wait;".repeat(40), 0, NONE);
        fault(1, "wait;".repeat(41), 3, 200);
        fault(2, "runs 5;", 2, 5);
        fault(2, "run 1;", 1, 0);
        fault(2, "stood 5 0;", 2, 6);
        fault(2, "lay 0 31;", 2, 6);
        fault(2, "lay 0 30;", 0, NONE);
        fault(2, "lay 0;", 1, 5);
        fault(2, "lay 0 0;".repeat(8), 0, NONE);
        fault(2, "runs 1;" + "lay 0 0;".repeat(9), 3, 71);
    }

    private static void stage() {
        PlateRunner x = with("speed 3;start 4;speed 2;start 0;plate 0 3 3;plate 2 4 2;plate 1 6 6;");
        int[] whats = {0, 1, 2, 10, 11, 12, 20, 21, 22, 30, 31, 32, 13, 23, 33, 3, 9, 40, -1, 100};
        int[] dues = {2, 0, 3, 0, 2, 1, 3, 4, 6, 3, 2, 6, NONE, NONE, NONE, NONE, NONE, NONE, NONE, NONE};
        for (int i = 0; i < whats.length; i++) DUE.is("stage " + whats[i], x.stage(0, whats[i]), dues[i]);
        DUE.is("no stage", x.stage(1, 0), NONE);
        DUE.is("no stage", x.stage(-1, 0), NONE);
    }

    private static void deed() {
        PlateRunner x = with("", 1, "run 1;wait;set 0;gust 2;oil 4;");
        DUE.is("deeds", x.deed(0, NONE, 0), 5);
        int[] kinds = {1, 0, 2, 3, 4};
        int[] plates = {1, NONE, 0, 2, 4};
        for (int k = 0; k < 5; k++) {
            DUE.is("kind", x.deed(0, k, 0), kinds[k]);
            DUE.is("plate", x.deed(0, k, 1), plates[k]);
        }
        DUE.is("no deed", x.deed(0, 5, 0), -2);
        DUE.is("no deed", x.deed(0, -2, 0), -2);
        DUE.is("what", x.deed(0, 0, 2), -2);
        DUE.is("what", x.deed(0, NONE, 1), -2);
        DUE.is("no show", x.deed(1, NONE, 0), -2);
        DUE.is("no show", x.deed(-1, 0, 0), -2);
    }

    /** By hand: beats, place, standing, fell, spun, LEFT of three, LIFE of three behind each deed. */
    private static void stopAndState() {
        PlateRunner x = with(THREE, 1, SHOW);
        int[] whats = {0, 1, 2, 3, 4, 10, 11, 12, 20, 21, 22};
        int[][] dues = {
            {0, 0, 7, 0, 0, 3, 2, 6, 3, 4, 6},
            {2, 2, 7, 0, 1, 1, 4, 4, 3, 4, 6},
            {3, 2, 6, 1, 1, 0, 3, 3, 3, 4, 6},
            {5, 0, 7, 1, 1, 3, 1, 1, 3, 4, 6},
            {5, 0, 3, 2, 1, 3, 1, 0, 3, 4, 6},
            {5, 0, 3, 2, 1, 3, 1, 0, 3, 5, 6},
            {7, 2, 1, 3, 1, 1, 0, 0, 3, 5, 6},
            {9, 0, 0, 4, 1, 0, 0, 0, 3, 5, 6}};
        DUE.is("stop", x.stop(0, 0), 7);
        for (int n = 0; n < dues.length; n++)
            for (int i = 0; i < whats.length; i++)
                DUE.is("state " + n + " " + whats[i], x.state(0, 0, n, whats[i]), dues[n][i]);
        DUE.is("behind stop", x.state(0, 0, 8, 0), NONE);
        DUE.is("below", x.state(0, 0, -1, 0), NONE);
        for (int what : new int[] {-1, 5, 9, 13, 19, 23, 30}) DUE.is("what " + what, x.state(0, 0, 0, what), NONE);
        DUE.is("no stage", x.state(1, 0, 0, 0), NONE);
        DUE.is("no show", x.state(0, 1, 0, 0), NONE);
        DUE.is("no stage", x.stop(1, 0), NONE);
        DUE.is("no show", x.stop(0, -1), NONE);
        int[] stops = {1, 0, 0, 0, 1, 0};
        String[] shows = {"oil 1;oil 3;", "set 0;", "gust 3;", "oil 2;", "run 0;set 0;", "run 3;"};
        for (int i = 0; i < shows.length; i++)
            DUE.is("stop of " + shows[i], with(THREE, 1, shows[i]).stop(0, 0), stops[i]);
        // The plate run to lasts to the last beat but one, and does not fall in the last.
        x = with("speed 1;plate 2 6 3;plate 2 6 2;", 1, "run 0;run 1;");
        DUE.is("spun", x.state(0, 0, 1, 10), 6);
        DUE.is("fell", x.state(0, 0, 1, 3), 1);
        DUE.is("stop", x.stop(0, 0), 1);
        x = with("speed 1;plate 2 6 2;", 1, "run 0;oil 0;wait;");
        DUE.is("in vain", x.state(0, 0, 1, 4), 0);
        DUE.is("he is there all the same", x.state(0, 0, 1, 1), 2);
        DUE.is("beats all the same", x.state(0, 0, 1, 0), 3);
        DUE.is("no more oil", x.stop(0, 0), 1);
    }

    private static void limitOfBeats() {
        // 9 runs of 10 beats from end to end, with plates set up anew, then single beats.
        StringBuilder show = new StringBuilder();
        for (int i = 0; i < 9; i++) show.append(i == 0 ? "run 0;" : "set " + i % 2 + ";");
        PlateRunner x = with("speed 1;start 9;plate 0 6 6;plate 9 6 6;", 1, show + "wait;".repeat(12));
        DUE.is("90 beats", x.state(0, 0, 9, 0), 90);
        DUE.is("99 beats", x.state(0, 0, 18, 0), 99);
        DUE.is("no beat more", x.stop(0, 0), 18);
        DUE.is("no such state", x.state(0, 0, 19, 0), NONE);
        x = with("speed 1;start 9;plate 0 6 6;plate 9 6 6;", 1, show + "set 1;");
        DUE.is("100 beats can't be", x.stop(0, 0), 9);
        x = with("speed 1;start 9;plate 0 6 6;plate 9 5 5;", 1, show + "wait;".repeat(9) + "oil 1;wait;");
        DUE.is("oil takes no beat", x.stop(0, 0), 19);
        // Sets of 9 beats, 99 in all; then some of one beat, a run the last.
        StringBuilder sets = new StringBuilder();
        for (int i = 0; i < 12; i++) sets.append(i == 0 ? "run 0;" : "set " + i % 2 + ";");
        x = with("speed 1;start 8;plate 0 6 6;plate 8 6 6;", 1, sets.toString());
        DUE.is("99 beats by a set", x.stop(0, 0), 11);
        DUE.is("99 beats", x.state(0, 0, 11, 0), 99);
        x = with("speed 1;start 9;plate 0 6 6;plate 9 6 6;", 1, show + "wait;".repeat(7) + "set 0;run 0;run 0;");
        DUE.is("99 beats by a run", x.stop(0, 0), 18);
        DUE.is("99 beats", x.state(0, 0, 18, 0), 99);
        x = with("speed 1;start 9;plate 0 6 6;plate 9 6 6;", 1, show + "wait;".repeat(8) + "set 0;gust 0;run 0;");
        DUE.is("100 beats by a run", x.stop(0, 0), 19);
    }

    /** A stage told in the place of another is asked anew, however little they differ. */
    private static void stagesToldAnew() {
        String[] stages = {"speed 5;start 4;plate 0 6 6;plate 9 6 6;", "speed 4;start 4;plate 0 6 6;plate 9 6 6;",
            "speed 5;start 9;plate 0 6 6;plate 9 6 6;", "speed 5;start 4;plate 0 6 6;", "speed 5;start 4;plate 0 6 6;plate 4 6 6;",
            "speed 5;start 4;plate 0 6 6;plate 9 5 5;", "speed 5;start 4;plate 0 6 6;plate 9 6 5;", "speed 5;start 4;plate 0 6 6;plate 9 6 1;"};
        PlateRunner x = with("");
        for (String one : stages) {
            for (String other : stages) {
                Tape.tell(x, 0, 0, one);
                x.keep(0, 0);
                Tape.tell(x, 0, 0, other);
                PlateRunner fresh = with(other);
                for (int what = 0; what < 20; what++) {
                    DUE.is(one + " then " + other + " keep " + what, x.keep(0, what), fresh.keep(0, what));
                    DUE.is(one + " then " + other + " behind " + what, x.behind(0, what % 2, what / 2), fresh.behind(0, what % 2, what / 2));
                }
                for (int what = 5; what < 7; what++) DUE.is("need " + what, x.need(0, what), fresh.need(0, what));
            }
        }
    }

    private static void keepIs(String stage, int... dues) {
        PlateRunner x = with(stage);
        for (int what = 0; what < 6; what++) DUE.is(stage + " keep " + what, x.keep(0, what), dues[what]);
        for (int k = 6; k < dues.length; k++) DUE.is(stage + " row " + (k - 6), x.keep(0, 10 + k - 6), dues[k]);
    }

    private static void keep() {
        keepIs("", 1, NONE, NONE, NONE, NONE, NONE, NONE);
        keepIs("plate 0 1 1;", 1, NONE, 1, 1, 1, NONE, 0, 0, 0);
        keepIs(TWINS, 1, NONE, 1, 2, 2, NONE, 0, 1, 0, 1);
        keepIs("plate 0 1 1;plate 0 1 1;", 0, 1, NONE, NONE, NONE, 0, NONE);
        keepIs(FAR, 0, 1, NONE, NONE, NONE, 0, NONE);
        // Three of LIFE 2 at one place: a run to one lets the other two fall in the beat behind it.
        keepIs(TWINS + "plate 0 2 2;", 0, 2, NONE, NONE, NONE, 0, NONE, NONE);
        // Run to 1 in beat 1, to 0 in beat 2, then 0 falls in beat 3, as 1 does: 0 has LIFE 1.
        keepIs("plate 0 1 1;plate 1 3 3;speed 1;", 0, 3, NONE, NONE, NONE, 2, 0, 0, NONE);
        // START itself does not come again, though the runner stands as at plate 0 there.
        keepIs("start 5;plate 5 6 6;", 1, NONE, 1, 1, 1, NONE, 0, 0);
        // Two beats from pole to pole, each seen every 4 beats; the first run leads to what comes again.
        keepIs("speed 9;start 0;plate 5 4 4;plate 0 4 4;", 1, NONE, 1, 2, 4, NONE, 0, 1, 0, 1);
        PlateRunner x = with(TWINS);
        DUE.is("99th", x.keep(0, 109), 1);
        for (int what : new int[] {-1, 6, 9, 110, 1000}) DUE.is("keep " + what, x.keep(0, what), -2);
        DUE.is("no stage", x.keep(1, 0), -2);
        x = with("");
        DUE.is("no plates", x.keep(0, 109), NONE);
        DUE.is("no plates", x.keep(0, 110), -2);
    }

    private static void need() {
        PlateRunner x = with("");
        int[] bare = {1, 1023, 0, 0, 0, 1, 1};
        for (int what = 0; what < 7; what++) DUE.is("need " + what, x.need(0, what), bare[what]);
        for (int what : new int[] {-1, 7, 9, 10, 20, 30}) DUE.is("need " + what, x.need(0, what), -2);
        DUE.is("no stage", x.need(1, 0), -2);
        x = with(TWINS);
        // Place 1 is one beat off by SPEED 2, from where both fall in the second beat or the third.
        int[] twins = {1, 1, 2, 3, 3, 3, 3};
        for (int what = 0; what < 7; what++) DUE.is("need " + what, x.need(0, what), twins[what]);
        DUE.is("life", x.need(0, 10), 2);
        DUE.is("life", x.need(0, 11), 2);
        DUE.is("moves", x.need(0, 20), 1);
        DUE.is("no plate", x.need(0, 12), -2);
        DUE.is("no plate", x.need(0, 22), -2);
        x = with(FAR);
        int[] far = {NONE, 0, 1, 2, 1, 1, 0};
        for (int what = 0; what < 7; what++) DUE.is("need " + what, x.need(0, what), far[what]);
        DUE.is("life", x.need(0, 10), NONE);
        DUE.is("moves", x.need(0, 20), 0);
        // By SPEED 3 both ways take 3 beats, and 1: each is seen every 8 beats, far above LIFE 6.
        x = with("speed 3;plate 0 6 6;plate 9 6 6;");
        DUE.is("speeds", x.need(0, 0), 5);
        DUE.is("not so", x.keep(0, 0), 0);
        // Beside 0 by SPEED 3: one beat and 1 each way.
        DUE.is("moves", x.need(0, 21), 0b1111111);
        DUE.is("starts", x.need(0, 1), 0);
        DUE.is("leave", x.need(0, 3), 1);
        DUE.is("spare", x.need(0, 4), 3);
    }

    private static void behind() {
        PlateRunner x = with(TWINS);
        DUE.is("kept", x.behind(0, 0, 0), 1);
        DUE.is("for ever", x.behind(0, 0, 1), 1);
        DUE.is("lasts", x.behind(0, 0, 2), NONE);
        for (int what : new int[] {-1, 3}) DUE.is("what", x.behind(0, 0, what), -2);
        for (int plate : new int[] {-1, 2}) DUE.is("plate", x.behind(0, plate, 0), -2);
        DUE.is("no stage", x.behind(1, 0, 0), -2);
        x = with(FAR);
        for (int plate = 0; plate < 2; plate++) {
            DUE.is("kept", x.behind(0, plate, 0), 0);
            DUE.is("for ever", x.behind(0, plate, 1), -2);
            DUE.is("lasts", x.behind(0, plate, 2), -2);
        }
        // Behind a run to 0 it has 1 LEFT, 1 has 2: another run to 0, then 1 falls in the second beat.
        x = with("plate 0 1 1;plate 1 3 3;speed 1;");
        DUE.is("kept", x.behind(0, 0, 0), 1);
        DUE.is("for ever", x.behind(0, 0, 1), 0);
        DUE.is("lasts", x.behind(0, 0, 2), 2);
        DUE.is("not kept", x.behind(0, 1, 0), 0);
    }

    private static void save() {
        PlateRunner x = with(TWINS + "plate 0 2 2;");
        DUE.is("save 0", x.save(0, 0, false), 3);
        DUE.is("first of 0", x.save(0, 0, true), NONE);
        DUE.is("save 1", x.save(0, 1, false), 3);
        DUE.is("first of 1", x.save(0, 1, true), 0);
        DUE.is("save 2", x.save(0, 2, false), 2);
        DUE.is("save 6", x.save(0, 6, false), 2);
        for (int n : new int[] {-1, 7}) {
            DUE.is("n", x.save(0, n, false), -9);
            DUE.is("n", x.save(0, n, true), -9);
        }
        DUE.is("no stage", x.save(1, 0, false), -9);
        x = with("");
        DUE.is("bare", x.save(0, 6, false), 0);
        DUE.is("bare", x.save(0, 6, true), 5);
        DUE.is("bare", x.save(0, 0, true), NONE);
        // A run of 2 beats does not go into 1 beat: he waits.
        x = with("speed 9;plate 5 6 6;");
        DUE.is("too far", x.save(0, 1, true), 5);
        DUE.is("far enough", x.save(0, 2, true), 0);
        // It falls on the way, but no better is to be had.
        x = with("speed 1;plate 3 6 2;");
        DUE.is("in vain", x.save(0, 4, false), 0);
        DUE.is("in vain, too", x.save(0, 4, true), 0);
        DUE.is("no time for that", x.save(0, 3, true), 5);
    }

    private static void duel() {
        PlateRunner x = with(TWINS);
        DUE.is("duel 0", x.duel(0, 0, false), 2);
        DUE.is("first of 0", x.duel(0, 0, true), NONE);
        DUE.is("duel 1", x.duel(0, 1, false), 2);
        DUE.is("first of 1", x.duel(0, 1, true), 0);
        // He spins 0, the rival blows at 1, which has 1 LEFT.
        DUE.is("duel 2", x.duel(0, 2, false), 1);
        DUE.is("first of 2", x.duel(0, 2, true), 0);
        DUE.is("duel 3", x.duel(0, 3, false), 1);
        for (int n : new int[] {-1, 4}) {
            DUE.is("n", x.duel(0, n, false), -9);
            DUE.is("n", x.duel(0, n, true), -9);
        }
        DUE.is("no stage", x.duel(1, 0, false), -9);
        x = with("");
        DUE.is("bare", x.duel(0, 3, false), 0);
        DUE.is("bare", x.duel(0, 3, true), 5);
        // A run of 10 beats lets it fall; waiting one beat does not.
        x = with("speed 1;start 9;plate 0 3 3;");
        DUE.is("waits", x.duel(0, 1, true), 5);
        DUE.is("stands", x.duel(0, 1, false), 1);
        DUE.is("a gust leaves 1", x.duel(0, 2, false), 1);
        DUE.is("behind that none", x.duel(0, 3, false), 0);
        DUE.is("all alike then", x.duel(0, 3, true), 0);
    }

    private static void odds(PlateRunner x, int plate, int p, int n, int over, int under) {
        DUE.is("odds " + plate + " " + p + " " + n, x.odds(0, plate, p, n, false), over);
        DUE.is("odds under " + plate + " " + p + " " + n, x.odds(0, plate, p, n, true), under);
    }

    private static void odds() {
        PlateRunner x = with(THREE);
        odds(x, 0, 3, 0, 1, 1);
        odds(x, 0, 0, 2, 1, 1);
        odds(x, 0, 0, 3, 0, 1);
        odds(x, 0, 10, 1, 1, 1);
        odds(x, 0, 10, 2, 0, 1);
        odds(x, 0, 3, 2, 49, 100);
        odds(x, 1, 4, 1, 3, 5);
        odds(x, 2, 1, 5, 59049, 100000);
        odds(x, 2, 5, 4, 5, 16);
        odds(x, 2, 0, 6, 0, 1);
        odds(x, 3, 0, 0, NONE, NONE);
        odds(x, -1, 0, 0, NONE, NONE);
        odds(x, 0, 11, 0, NONE, NONE);
        odds(x, 0, -1, 0, NONE, NONE);
        odds(x, 0, 0, 7, NONE, NONE);
        odds(x, 0, 0, -1, NONE, NONE);
        DUE.is("no stage", x.odds(1, 0, 0, 0, false), NONE);
    }

    private static void log() {
        PlateRunner x = with("", 2, "stood 1 2;lay 4 30;");
        int[] whats = {0, 1, 10, 20, 30, 11, 21, 31, 12, 22, 32, 2, 9, 40, -1};
        int[] dues = {1, 2, 1, 1, 2, 0, 4, 30, NONE, NONE, NONE, NONE, NONE, NONE, NONE};
        for (int i = 0; i < whats.length; i++) DUE.is("log " + whats[i], x.log(0, whats[i]), dues[i]);
        DUE.is("no log", x.log(1, 0), NONE);
        Tape.tell(x, 2, 0, "runs 3;runs 4;");
        DUE.is("later ones strike", x.log(0, 0), 4);
    }

    private static void fits() {
        // Behind 2 beats of a run to 1 it has LIFE; by any other run it falls in the second beat.
        PlateRunner x = with(THREE, 2, "runs 1;stood 1 2;");
        int[] whats = {0, 1, 2, 3, 5, 10, 11, 6, 9, -1};
        int[] dues = {1, 0, 1, NONE, NONE, 11, -2, -2, -2, -2};
        for (int i = 0; i < whats.length; i++) DUE.is("fits " + whats[i], x.fits(0, 0, whats[i]), dues[i]);
        DUE.is("no stage", x.fits(1, 0, 0), -2);
        DUE.is("no log", x.fits(0, 1, 0), -2);
        Tape.tell(x, 2, 0, "runs 1;");
        // 0 falls in beat 3, but in beat 4 by the run to it; 1 in 2, but in 6; 2 in 6, but in 8:
        // none of three splits better than 2 to 1, first of all plate 1 behind 2 beats.
        int[] free = {3, 21, NONE, NONE, NONE, 10, 11};
        for (int i = 0; i < 5; i++) DUE.is("fits " + whats[i], x.fits(0, 0, whats[i]), free[i]);
        for (int k = 0; k < 3; k++) DUE.is("the k-th", x.fits(0, 0, 10 + k), 10 + k);
        DUE.is("no 4th", x.fits(0, 0, 13), -2);
        Tape.tell(x, 2, 0, "runs 0;");
        DUE.is("nothing is done", x.fits(0, 0, 0), 1);
        DUE.is("a 1 alone", x.fits(0, 0, 10), 1);
        DUE.is("not so many", x.fits(0, 0, 2), NONE);
        Tape.tell(x, 2, 0, "runs 0;lay 0 2;");
        DUE.is("nothing fits", x.fits(0, 0, 0), 0);
        DUE.is("nothing fits", x.fits(0, 0, 1), NONE);
        DUE.is("nothing fits", x.fits(0, 0, 2), NONE);
        DUE.is("nothing fits", x.fits(0, 0, 10), -2);
        Tape.tell(x, 2, 0, "runs 0;lay 3 0;");
        DUE.is("not there: never", x.fits(0, 0, 0), 0);
        Tape.tell(x, 2, 0, "runs 4;");
        Tape.tell(x, 0, 0, TWINS);
        // Two runs to one of them let the other fall, which can't be run to behind that.
        int[] rows = {10000, 10100, 10101, 10111, 11000, 11010, 11011, 11111};
        DUE.is("how many", x.fits(0, 0, 0), 8);
        for (int k = 0; k < 8; k++) DUE.is("the k-th", x.fits(0, 0, 10 + k), rows[k]);
        Tape.tell(x, 0, 0, "");
        DUE.is("no plates, runs", x.fits(0, 0, 0), 0);
        Tape.tell(x, 2, 0, "runs 0;");
        DUE.is("no plates, no runs", x.fits(0, 0, 0), 1);
        DUE.is("nothing to ask", x.fits(0, 0, 1), NONE);
    }

    private static void drawn() {
        PlateRunner x = with(THREE);
        // From 1: 1103527590 >>> 16 is 16838; below 10: 8, a wait. Then 2524885223 >>> 16: 38526: 6, a gust;
        // then 662824084 >>> 16: 10113: below 3: 0.
        DUE.is("begin", x.drawn(0, 1, 0, 0), 0);
        DUE.is("a wait", x.drawn(0, 1, 1, 0), 1);
        DUE.is("a wait", x.drawn(0, 1, 1, 10), 2);
        DUE.is("a gust", x.drawn(0, 1, 2, 0), 1);
        DUE.is("a gust", x.drawn(0, 1, 2, 10), 1);
        for (int n : new int[] {-1, 61}) DUE.is("n", x.drawn(0, 1, n, 0), NONE);
        for (int what : new int[] {-1, 5, 13, 23}) DUE.is("what", x.drawn(0, 1, 60, what), NONE);
        DUE.is("no stage", x.drawn(1, 1, 0, 0), NONE);
        // Without plates: 8 waits, 6 draws no more, then 10113 below 10: 3, nothing.
        x = with("");
        DUE.is("bare", x.drawn(0, 1, 3, 0), 1);
    }

    private static void load() {
        PlateRunner x = with(THREE);
        // The run to 0 is kept, but leaves 1 LEFT to 1, one beat off.
        int[] three = {3, 4, 2, 2, 0, 7, 3, 0, 0, 1, 0, 2};
        for (int what = 0; what <= 11; what++) {
            // PAIRS of it are looked at against the model.
            if (what != 6) DUE.is("load " + what, x.load(0, what), three[what]);
        }
        int[] falling = {1, 0, 2, NONE, NONE};
        for (int k = 0; k < 5; k++) DUE.is("falling " + k, x.load(0, 20 + k), falling[k]);
        DUE.is("falling", x.load(0, 1000), NONE);
        for (int what : new int[] {-1, 13, 19}) DUE.is("what", x.load(0, what), -2);
        DUE.is("no stage", x.load(1, 0), -2);
        x = with("");
        int[] bare = {0, 1, NONE, 0, 0, 0, 0, 0, 1, 0, 0, 0, NONE};
        for (int what = 0; what <= 12; what++) DUE.is("load " + what, x.load(0, what), bare[what]);
        DUE.is("falling", x.load(0, 20), NONE);
        x = with(TWINS);
        int[] twins = {1, 1, 2, 0, 1, 3, 1, 0, 1, 99, 0, 0, NONE};
        for (int what = 0; what <= 12; what++) DUE.is("load " + what, x.load(0, what), twins[what]);
        DUE.is("the least first", x.load(0, 20), 0);
        x = with(FAR);
        int[] far = {7, 6, 1, 9, 0, 2, 0, 1, 0, 0, 0, 9, NONE};
        for (int what = 0; what <= 12; what++) DUE.is("load " + what, x.load(0, what), far[what]);
        // 0 can't be reached in time where it stands; changed for 1 it can, but by SPEED 3 all else is too far.
        x = with("speed 3;plate 9 6 1;plate 0 6 6;plate 0 6 6;");
        DUE.is("late", x.load(0, 7), 1);
        DUE.is("swap", x.load(0, 12), NONE);
        x = with("speed 9;plate 9 6 1;plate 0 6 6;plate 0 6 6;");
        DUE.is("late", x.load(0, 7), 1);
        DUE.is("in row", x.load(0, 9), 0);
        DUE.is("swap", x.load(0, 12), 1);
    }

    private static void after() {
        PlateRunner x = with(THREE, 1, SHOW);
        int[] dues = {1, 2, 1, 2, 4, 1};
        for (int what = 0; what < 6; what++) DUE.is("after " + what, x.after(0, 0, what), dues[what]);
        for (int what : new int[] {-1, 6}) DUE.is("what", x.after(0, 0, what), -2);
        DUE.is("no stage", x.after(1, 0, 0), -2);
        DUE.is("no show", x.after(0, 1, 0), -2);
        Tape.tell(x, 1, 0, "");
        int[] nothing = {NONE, 0, NONE, 0, 0, 0};
        for (int what = 0; what < 6; what++) DUE.is("after " + what, x.after(0, 0, what), nothing[what]);
        // A gust fells between beats, which breaks no row of them and is no beat's fall.
        x = with("plate 0 6 1;plate 0 6 6;", 1, "gust 0;wait;gust 1;wait;");
        int[] gusts = {0, 0, NONE, 2, 0, 0};
        for (int what = 0; what < 6; what++) DUE.is("after " + what, x.after(0, 0, what), gusts[what]);
        x = with("plate 0 2 2;plate 0 2 2;plate 0 6 6;", 1, "run 2;wait;run 2;run 2;");
        int[] both = {1, 0, 2, 2, 0, 2};
        for (int what = 0; what < 6; what++) DUE.is("after " + what, x.after(0, 0, what), both[what]);
        x = with("plate 0 6 6;plate 0 6 6;", 1, "run 1;run 0;");
        DUE.is("of several the least", x.after(0, 0, 2), 0);
    }

    private static void least() {
        PlateRunner x = with(THREE, 2, "runs 1;");
        int[] dues = {1, 2, 3};
        for (int what = 0; what < 3; what++) DUE.is("least " + what, x.least(0, 0, what), dues[what]);
        for (int what : new int[] {-1, 3}) DUE.is("what", x.least(0, 0, what), NONE);
        DUE.is("no stage", x.least(1, 0, 0), NONE);
        DUE.is("no log", x.least(0, 1, 0), NONE);
        Tape.tell(x, 2, 0, "runs 1;lay 1 2;");
        int[] fallen = {1, 2, 3};
        for (int what = 0; what < 3; what++) DUE.is("least " + what, x.least(0, 0, what), fallen[what]);
        Tape.tell(x, 2, 0, "runs 1;lay 1 2;lay 0 3;");
        int[] two = {2, 2, 2};
        for (int what = 0; what < 3; what++) DUE.is("least " + what, x.least(0, 0, what), two[what]);
        Tape.tell(x, 2, 0, "runs 1;lay 1 0;");
        for (int what = 0; what < 3; what++) DUE.is("least " + what, x.least(0, 0, what), NONE);
        Tape.tell(x, 2, 0, "runs 0;");
        int[] none = {0, 0, 3};
        for (int what = 0; what < 3; what++) DUE.is("least " + what, x.least(0, 0, what), none[what]);
    }

    private static void images() {
        PlateRunner x = with(THREE, 1, SHOW);
        Tape.tell(x, 2, NONE, "runs 3;stood 1 2;");
        Tape.tell(x, 2, NONE, "runs 5;");
        Tape.lay(x, "speed 7;");
        for (int k : new int[] {-1, 3}) DUE.is("image " + k, x.image(k), false);
        DUE.is("image", x.image(2), true);
        for (int k : new int[] {-1, 0, 1, 3}) DUE.is("again " + k, x.again(k), false);
        DUE.is("text", x.text(0, 0), 0);
        Tape.tell(x, 1, 0, "wait;");
        Tape.tell(x, 1, NONE, "wait;");
        Tape.tell(x, 2, 0, "runs 2;");
        DUE.is("image", x.image(0), true);
        for (int i = 0; i < 2; i++) {
            DUE.is("again", x.again(2), true);
            DUE.is("fault", x.fault(0), 2);
            DUE.is("place", x.fault(1), 5);
            DUE.is("plates", x.stage(0, 2), 3);
            DUE.is("speed", x.stage(0, 0), 2);
            DUE.is("deeds", x.deed(0, NONE, 0), 8);
            DUE.is("shows", x.count(1), 1);
            DUE.is("runs", x.log(0, 0), 3);
            DUE.is("facts", x.log(0, 1), 1);
            DUE.is("tape", x.end(9), NONE);
            DUE.is("tape", x.end(8), 8);
            DUE.is("tape's bytes", x.text(0, NONE), 1);
            DUE.is("tape's bytes", x.stage(1, 0), 7);
        }
        DUE.is("again", x.again(0), true);
        DUE.is("fault", x.fault(0), 0);
        DUE.is("plates", x.stage(0, 2), 0);
        DUE.is("shows", x.count(1), 2);
        DUE.is("runs", x.log(0, 0), 2);
        DUE.is("image anew", x.image(2), true);
        DUE.is("again", x.again(2), true);
        DUE.is("plates", x.stage(0, 2), 0);
    }

    /** No call may throw, whatever its numbers are. */
    private static void wildNumbers() {
        int[] wild = {Integer.MIN_VALUE, Integer.MIN_VALUE + 9, -1000, -11, -10, -2, -1, 0, 1, 2, 3, 4, 5, 6, 9, 10, 14, 15, 20, 24, 31, 99,
            109, 110, 634, 635, 1000, Integer.MAX_VALUE - 9, Integer.MAX_VALUE};
        for (String stage : new String[] {"", THREE, FAR, "plate 0 6 6;".repeat(5)}) {
            PlateRunner x = with(stage, 1, SHOW);
            Tape.tell(x, 2, NONE, "runs 4;");
            for (int a : wild) {
                x.end(a); x.fault(a); x.count(a); x.image(a); x.again(a);
                for (int b : wild) {
                    x.stage(a, b); x.stop(a, b); x.keep(a, b); x.need(a, b); x.log(a, b); x.load(a, b);
                    x.save(a, b, false); x.duel(a, b, true);
                    if (a != 0 || b != -1 && b != 0) x.text(a == 0 ? 1 : a, b);
                    for (int c : wild) {
                        x.deed(a, b, c); x.state(0, a, b, c); x.behind(a, b, c); x.after(a, b, c);
                        x.odds(0, a, b, c, true); x.drawn(0, a, b, c); x.fits(a, b, c); x.least(a, b, c);
                    }
                }
            }
        }
        PlateRunner x = with(THREE);
        DUE.is("stage MIN", x.stage(0, Integer.MIN_VALUE), NONE);
        DUE.is("need MIN", x.need(0, Integer.MIN_VALUE), -2);
        DUE.is("load MIN", x.load(0, Integer.MIN_VALUE), -2);
        DUE.is("load MAX", x.load(0, Integer.MAX_VALUE), NONE);
        DUE.is("keep MIN", x.keep(0, Integer.MIN_VALUE), -2);
        DUE.is("keep MAX", x.keep(0, Integer.MAX_VALUE), -2);
        DUE.is("drawn MIN", x.drawn(0, Integer.MIN_VALUE, 0, Integer.MIN_VALUE), NONE);
    }
}
