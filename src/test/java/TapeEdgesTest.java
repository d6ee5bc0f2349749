/** Promises 1 to 7, 16, 22 to 24: each sentence of theirs that names an edge or a refused call. */
public final class TapeEdgesTest {
    private static final Due DUE = new Due();
    private static final int NONE = PlateRunner.NONE;

    public static void main(String[] args) {
        newObject();
        newObjectKnowsNothing();
        feedHighestFirst();
        feedRefused();
        endEdges();
        endCutsBytes();
        textLeavesTheTapeEmpty();
        textFurther();
        textInPlace();
        textNoSuchSort();
        textWithFaultTellsNothing();
        textRefusedIsNotRead();
        faultEdges();
        faultIsOfTheLatestText();
        stageEdges();
        deedEdges();
        logEdges();
        countEdges();
        imageEdges();
        imageHoldsAll();
        imageOfNothing();
        imagesAreThree();
        fiveHundredAndTwelveCalls();
        DUE.finish();
    }

    private static void newObject() {
        DUE.says("Promise 1: No STAGES, SHOWS, LOGS; no images.");
        PlateRunner x = new PlateRunner();
        for (int sort = 0; sort < 3; sort++) DUE.is("count " + sort, x.count(sort), 0);
        for (int k = 0; k < 3; k++) DUE.is("again " + k, x.again(k), false);
        DUE.is("end 0", x.end(0), 0);
        DUE.is("end 1", x.end(1), NONE);
        DUE.is("fault", x.fault(0), 0);
        DUE.is("its place", x.fault(1), NONE);
    }

    private static void newObjectKnowsNothing() {
        DUE.says("there is none such, of a new object");
        PlateRunner x = new PlateRunner();
        DUE.is("stage", x.stage(0, 0), NONE);
        DUE.is("deed", x.deed(0, NONE, 0), -2);
        DUE.is("stop", x.stop(0, 0), NONE);
        DUE.is("state", x.state(0, 0, 0, 0), NONE);
        DUE.is("keep", x.keep(0, 0), -2);
        DUE.is("need", x.need(0, 0), -2);
        DUE.is("behind", x.behind(0, 0, 0), -2);
        DUE.is("save", x.save(0, 0, false), -9);
        DUE.is("save", x.save(0, 0, true), -9);
        DUE.is("duel", x.duel(0, 0, false), -9);
        DUE.is("duel", x.duel(0, 0, true), -9);
        DUE.is("odds", x.odds(0, 0, 0, 0, false), NONE);
        DUE.is("log", x.log(0, 0), NONE);
        DUE.is("fits", x.fits(0, 0, 0), -2);
        DUE.is("drawn", x.drawn(0, 0, 0, 0), NONE);
        DUE.is("load", x.load(0, 0), -2);
        DUE.is("after", x.after(0, 0, 0), -2);
        DUE.is("least", x.least(0, 0, 0), NONE);
    }

    private static void feedHighestFirst() {
        DUE.says("Promise 2: twenty bytes come behind it, of each number the highest first");
        PlateRunner x = new PlateRunner();
        DUE.is("feed", x.feed(0x73706565, 0x6420373b, 0x73746172, 0x7420383b, 0x73706565), 20);
        DUE.is("feed behind it", x.feed(0x6420393b, 0x0a202020, 0x20200a0a, 0x2020200a, 0x20202020), 40);
        DUE.is("text", x.text(0, NONE), 0);
        DUE.is("speed", x.stage(0, 0), 9);
        DUE.is("start", x.stage(0, 1), 8);
        // A sign is a bit of a byte like any other.
        for (int at = 0; at < 20; at++) {
            int[] n = {0x20202020, 0x20202020, 0x20202020, 0x20202020, 0x20202020};
            n[at / 4] ^= 0xa0 << 24 - 8 * (at % 4);
            x.feed(n[0], n[1], n[2], n[3], n[4]);
            DUE.is("a byte above 127", x.text(0, NONE), NONE);
            DUE.is("where it is", x.fault(1), at);
        }
    }

    private static void feedRefused() {
        DUE.says("Promise 2: NONE, and nothing comes, if there would be more than 600");
        PlateRunner x = new PlateRunner();
        for (int i = 1; i <= 30; i++) DUE.is("feed", x.feed(0x20202020, 0x20202020, 0x20202020, 0x20202020, 0x20202020), 20 * i);
        DUE.is("full", x.feed(1, 1, 1, 1, 1), NONE);
        DUE.is("full still", x.feed(1, 1, 1, 1, 1), NONE);
        DUE.is("as long as before", x.end(601), NONE);
        DUE.is("as long as before", x.end(600), 600);
        for (int n = 599; n > 580; n--) {
            DUE.is("cut", x.end(n), n);
            DUE.is("would be " + (n + 20), x.feed(1, 1, 1, 1, 1), NONE);
            DUE.is("as long as before", x.end(n + 1), NONE);
        }
        DUE.is("blanks alone", x.text(0, NONE), 0);
        for (int i = 1; i <= 29; i++) x.feed(0x20202020, 0x20202020, 0x20202020, 0x20202020, 0x20202020);
        DUE.is("600 may be", x.feed(0x20202020, 0x20202020, 0x20202020, 0x73706565, 0x6420343b), 600);
        DUE.is("the last bytes count", x.text(0, 0), 0);
        DUE.is("the last bytes count", x.stage(0, 0), 4);
    }

    private static void endEdges() {
        DUE.says("Promise 3: NONE if it has not so many, or n is below 0");
        PlateRunner x = new PlateRunner();
        DUE.is("end 0 of 0", x.end(0), 0);
        DUE.is("end 1 of 0", x.end(1), NONE);
        x.feed(0, 0, 0, 0, 0);
        DUE.is("end 21 of 20", x.end(21), NONE);
        DUE.is("end -1", x.end(-1), NONE);
        for (int n : Given.FAR_OFF) DUE.is("end " + n, x.end(n), NONE);
        DUE.is("refused, it is as it was", x.end(20), 20);
        DUE.is("end 1", x.end(1), 1);
        DUE.is("end 2 of 1", x.end(2), NONE);
        DUE.is("end 0", x.end(0), 0);
        DUE.is("end 1 of 0", x.end(1), NONE);
    }

    private static void endCutsBytes() {
        DUE.says("Promise 3: The tape has its first n bytes alone");
        PlateRunner x = new PlateRunner();
        Tape.lay(x, "speed 7;speed 8;");
        x.end(8);
        DUE.is("behind the first 8", x.feed(0x73746172, 0x7420333b, 0x20202020, 0x20202020, 0x20202020), 28);
        DUE.is("text", x.text(0, NONE), 0);
        DUE.is("speed", x.stage(0, 0), 7);
        DUE.is("start", x.stage(0, 1), 3);
        Tape.lay(x, "speed 7;");
        x.end(0);
        DUE.is("none is left", x.text(0, 0), 0);
        DUE.is("speed", x.stage(0, 0), 2);
    }

    private static void textLeavesTheTapeEmpty() {
        String[] words = {"speed 3;", "speed 3", "speed 0;"};
        for (String text : words) {
            DUE.says("Promise 4: The tape is taken (and is empty then)");
            PlateRunner x = new PlateRunner();
            Tape.tell(x, 0, NONE, text);
            DUE.is(text, x.end(1), NONE);
            DUE.says("Promise 4: -2 (the tape is empty then, too)");
            int[][] refused = {{0, 1}, {1, 0}, {3, NONE}, {-1, NONE}, {0, -2}};
            for (int[] r : refused) {
                DUE.is(text, Tape.tell(x, r[0], r[1], text), -2);
                DUE.is(text, x.end(1), NONE);
            }
        }
    }

    private static void textFurther() {
        String[] texts = {"speed 3;", "run 1;", "runs 2;"};
        for (int sort = 0; sort < 3; sort++) {
            DUE.says("Promise 4: a further one (at NONE): its number");
            PlateRunner x = new PlateRunner();
            DUE.is("the first", Tape.tell(x, sort, NONE, texts[sort]), 0);
            DUE.is("how many", x.count(sort), 1);
            DUE.is("the second", Tape.tell(x, sort, NONE, ""), 1);
            DUE.is("how many", x.count(sort), 2);
            DUE.says("Promise 4: -2: there are as many as may be; STAGES, SHOWS, LOGS, at most 2");
            DUE.is("a third", Tape.tell(x, sort, NONE, texts[sort]), -2);
            DUE.is("how many", x.count(sort), 2);
            DUE.is("the first is as told", firstOf(x, sort, 0), sort == 0 ? 3 : sort == 1 ? 1 : 2);
            DUE.is("the second is as told", firstOf(x, sort, 1), sort == 0 ? 2 : sort == 1 ? 0 : 1);
            for (int other = 0; other < 3; other++) if (other != sort) DUE.is("no other", x.count(other), 0);
        }
    }

    /** A number that tells texts of a sort apart. */
    private static int firstOf(PlateRunner x, int sort, int number) {
        return sort == 0 ? x.stage(number, 0) : sort == 1 ? x.deed(number, NONE, 0) : x.log(number, 0);
    }

    private static void textInPlace() {
        String[][] texts = {{"speed 3;", "speed 4;", "speed 5;"}, {"wait;wait;wait;", "wait;wait;wait;wait;", "wait;wait;wait;wait;wait;"},
            {"runs 3;", "runs 4;", "runs 0;"}};
        int[][] firsts = {{3, 4, 5}, {3, 4, 5}, {3, 4, 0}};
        for (int sort = 0; sort < 3; sort++) {
            DUE.says("Promise 4: -2: there is none such");
            PlateRunner x = new PlateRunner();
            DUE.is("0 of none", Tape.tell(x, sort, 0, texts[sort][0]), -2);
            DUE.is("none is told", x.count(sort), 0);
            Tape.tell(x, sort, NONE, texts[sort][0]);
            DUE.is("1 of one", Tape.tell(x, sort, 1, texts[sort][1]), -2);
            DUE.is("none is told", x.count(sort), 1);
            Tape.tell(x, sort, NONE, texts[sort][1]);
            DUE.is("2 of two", Tape.tell(x, sort, 2, texts[sort][2]), -2);
            for (int at : Given.FAR_OFF) DUE.is("at " + at, Tape.tell(x, sort, at, texts[sort][2]), -2);
            DUE.says("Promise 4: or in the place of one: its number");
            for (int at = 0; at < 2; at++) {
                DUE.is("as told", firstOf(x, sort, at), firsts[sort][at]);
                DUE.is("in place", Tape.tell(x, sort, at, texts[sort][2]), at);
                DUE.is("as told", firstOf(x, sort, at), firsts[sort][2]);
                if (at == 0) DUE.is("the other", firstOf(x, sort, 1), firsts[sort][1]);
            }
            DUE.is("no more of them", x.count(sort), 2);
        }
        DUE.says("Promise 4: in the place of one: nothing of it is left");
        PlateRunner x = Given.stage("speed 9;start 9;plate 1 2 2;plate 3 4 4;");
        Tape.tell(x, 0, 0, "");
        int[] bare = {2, 0, 0};
        for (int what = 0; what < 3; what++) DUE.is("stage " + what, x.stage(0, what), bare[what]);
        DUE.is("no plate", x.stage(0, 10), NONE);
        Tape.tell(x, 2, NONE, "runs 4;stood 0 0;");
        Tape.tell(x, 2, 0, "");
        DUE.is("runs", x.log(0, 0), 1);
        DUE.is("facts", x.log(0, 1), 0);
        Tape.tell(x, 1, NONE, "wait;run 0;");
        Tape.tell(x, 1, 0, "");
        DUE.is("deeds", x.deed(0, NONE, 0), 0);
    }

    private static void textNoSuchSort() {
        DUE.says("Promise 4: -2: no such sort");
        PlateRunner x = new PlateRunner();
        for (int at = -1; at < 2; at++) {
            DUE.is("sort -1", Tape.tell(x, -1, at, ""), -2);
            DUE.is("sort 3", Tape.tell(x, 3, at, ""), -2);
            for (int sort : Given.FAR_OFF) DUE.is("sort " + sort, Tape.tell(x, sort, at, ""), -2);
        }
        for (int sort = 0; sort < 3; sort++) DUE.is("none is told", x.count(sort), 0);
    }

    private static void textWithFaultTellsNothing() {
        DUE.says("Promise 4: NONE: a FAULT");
        String[] stages = {"speed 5;start 6;plate 1 2 2;;", "speed 5;start 6;plate 1 2 3;", "speed 5;" + "plate 1 1 1;".repeat(6)};
        for (String text : stages) {
            PlateRunner x = Given.stage("speed 3;start 4;plate 7 6 5;");
            DUE.is(text, Tape.tell(x, 0, 0, text), NONE);
            DUE.is(text, Tape.tell(x, 0, NONE, text), NONE);
            DUE.is("how many", x.count(0), 1);
            int[] whats = {0, 1, 2, 10, 20, 30, 11};
            int[] dues = {3, 4, 1, 7, 6, 5, NONE};
            for (int i = 0; i < whats.length; i++) DUE.is("as it was", x.stage(0, whats[i]), dues[i]);
        }
        PlateRunner x = Given.show("", "run 3;wait;");
        DUE.is("a show", Tape.tell(x, 1, 0, "wait;gust 1;oil 5;"), NONE);
        DUE.is("as it was", x.deed(0, NONE, 0), 2);
        DUE.is("as it was", x.deed(0, 0, 1), 3);
        x = Given.log("", "runs 3;lay 4 9;");
        DUE.is("a log", Tape.tell(x, 2, 0, "runs 2;stood 1 1;stood 1 31;"), NONE);
        int[] whats = {0, 1, 10, 20, 30};
        int[] dues = {3, 1, 0, 4, 9};
        for (int i = 0; i < whats.length; i++) DUE.is("as it was", x.log(0, whats[i]), dues[i]);
    }

    private static void textRefusedIsNotRead() {
        DUE.says("Promise 4: -2 (no text is read, FAULT 0)");
        int[][] refused = {{0, 1}, {0, -2}, {1, 0}, {2, 0}, {3, NONE}, {-1, NONE}};
        for (int[] r : refused) {
            PlateRunner x = Given.stage("");
            DUE.is("a fault", Tape.tell(x, 0, 0, "speed 0;"), NONE);
            DUE.is("a fault", x.fault(0), 2);
            DUE.is("refused", Tape.tell(x, r[0], r[1], "!"), -2);
            DUE.is("no fault", x.fault(0), 0);
            DUE.is("no place", x.fault(1), NONE);
        }
        PlateRunner x = Given.stage("");
        Tape.tell(x, 0, NONE, "");
        DUE.is("full, though it has a fault", Tape.tell(x, 0, NONE, "!"), -2);
        DUE.is("no fault", x.fault(0), 0);
    }

    private static void faultEdges() {
        DUE.says("Promise 5: what 0: the FAULT, 0 without, 1: its place, NONE without. NONE for another what");
        PlateRunner x = Given.stage("");
        DUE.is("without", x.fault(0), 0);
        DUE.is("without", x.fault(1), NONE);
        Tape.tell(x, 0, 0, "?");
        DUE.is("with", x.fault(0), 1);
        DUE.is("at the first byte", x.fault(1), 0);
        DUE.is("what -1", x.fault(-1), NONE);
        DUE.is("what 2", x.fault(2), NONE);
        for (int what : Given.FAR_OFF) DUE.is("what " + what, x.fault(what), NONE);
    }

    private static void faultIsOfTheLatestText() {
        DUE.says("Promise 5: Of the latest text()");
        PlateRunner x = Given.show("", "");
        Tape.tell(x, 1, 0, "wait;run 5;");
        x.feed(0, 0, 0, 0, 0);
        x.end(0);
        x.end(-1);
        x.count(0);
        x.stage(0, 0);
        DUE.is("nothing else changes it", x.fault(0), 2);
        DUE.is("nothing else changes it", x.fault(1), 9);
        Tape.tell(x, 0, 0, " speed");
        DUE.is("a later one", x.fault(0), 1);
        DUE.is("a later one", x.fault(1), 6);
        Tape.tell(x, 2, NONE, "");
        DUE.is("a later one, without", x.fault(0), 0);
        DUE.is("a later one, without", x.fault(1), NONE);
    }

    private static void stageEdges() {
        DUE.says("Promise 6: NONE: there is none such (of either), or for another what");
        for (int plates = 0; plates <= 5; plates++) {
            PlateRunner x = Given.stage("speed 4;start 5;" + "plate 6 3 2;".repeat(plates));
            DUE.is("plates", x.stage(0, 2), plates);
            for (int k = 0; k < 10; k++) {
                DUE.is("place " + k, x.stage(0, 10 + k), k < plates ? 6 : NONE);
                DUE.is("life " + k, x.stage(0, 20 + k), k < plates ? 3 : NONE);
                DUE.is("left " + k, x.stage(0, 30 + k), k < plates ? 2 : NONE);
                DUE.is("what " + (40 + k), x.stage(0, 40 + k), NONE);
                if (k > 2) DUE.is("what " + k, x.stage(0, k), NONE);
            }
            for (int what = -40; what < 0; what++) DUE.is("what " + what, x.stage(0, what), NONE);
            for (int far : Given.FAR_OFF) DUE.is("what " + far, x.stage(0, far), NONE);
            for (int far : Given.FAR_OFF) DUE.is("stage " + far, x.stage(far, 0), NONE);
            DUE.is("stage 1", x.stage(1, 0), NONE);
            DUE.is("stage -1", x.stage(-1, 0), NONE);
        }
    }

    private static void deedEdges() {
        DUE.says("Promise 7: How many DEEDS (k NONE, what 0)");
        PlateRunner x = Given.show("", "oil 4;" + "wait;".repeat(38) + "set 0;");
        DUE.is("forty", x.deed(0, NONE, 0), 40);
        DUE.is("the first", x.deed(0, 0, 0), 4);
        DUE.is("its plate", x.deed(0, 0, 1), 4);
        DUE.is("the last", x.deed(0, 39, 0), 2);
        DUE.is("its plate", x.deed(0, 39, 1), 0);
        DUE.says("Promise 7: 1: the PLATE (NONE without)");
        DUE.is("a wait", x.deed(0, 38, 0), 0);
        DUE.is("without", x.deed(0, 38, 1), NONE);
        DUE.says("Promise 7: -2: there is none such (of either), or for another what");
        for (int what = -1; what < 3; what++) {
            DUE.is("deed 40", x.deed(0, 40, what), -2);
            DUE.is("deed -2", x.deed(0, -2, what), -2);
            DUE.is("show 1", x.deed(1, 0, what), -2);
            DUE.is("show -1", x.deed(-1, 0, what), -2);
            for (int far : Given.FAR_OFF) DUE.is("deed " + far, x.deed(0, far, what), -2);
            for (int far : Given.FAR_OFF) DUE.is("show " + far, x.deed(far, NONE, what), -2);
        }
        for (int far : Given.FAR_OFF) DUE.is("what " + far, x.deed(0, 0, far), -2);
        for (int far : Given.FAR_OFF) DUE.is("what " + far, x.deed(0, NONE, far), -2);
        DUE.is("what 2", x.deed(0, 0, 2), -2);
        DUE.is("what -1", x.deed(0, 0, -1), -2);
        DUE.is("what 1 of all", x.deed(0, NONE, 1), -2);
        DUE.is("what -1 of all", x.deed(0, NONE, -1), -2);
        x = Given.show("", "");
        DUE.is("no deeds", x.deed(0, NONE, 0), 0);
        DUE.is("deed 0 of none", x.deed(0, 0, 0), -2);
    }

    private static void logEdges() {
        DUE.says("Promise 16: NONE: there is none such (of either), or for another what");
        for (int facts = 0; facts <= 8; facts++) {
            PlateRunner x = Given.log("", "lay 4 30;".repeat(facts));
            DUE.is("facts", x.log(0, 1), facts);
            for (int k = 0; k < 10; k++) {
                DUE.is("lay " + k, x.log(0, 10 + k), k < facts ? 0 : NONE);
                DUE.is("plate " + k, x.log(0, 20 + k), k < facts ? 4 : NONE);
                DUE.is("beats " + k, x.log(0, 30 + k), k < facts ? 30 : NONE);
                DUE.is("what " + (40 + k), x.log(0, 40 + k), NONE);
                if (k > 1) DUE.is("what " + k, x.log(0, k), NONE);
            }
            for (int what = -40; what < 0; what++) DUE.is("what " + what, x.log(0, what), NONE);
            for (int far : Given.FAR_OFF) DUE.is("what " + far, x.log(0, far), NONE);
            for (int far : Given.FAR_OFF) DUE.is("log " + far, x.log(far, 0), NONE);
            DUE.is("log 1", x.log(1, 0), NONE);
            DUE.is("log -1", x.log(-1, 0), NONE);
        }
        DUE.says("Promise 16: of FACT k 1 if it stood, 0 if it lay");
        PlateRunner x = Given.log("", "stood 0 0;" + "lay 1 1;".repeat(6) + "stood 3 7;");
        DUE.is("the first", x.log(0, 10), 1);
        DUE.is("the second", x.log(0, 11), 0);
        DUE.is("the last", x.log(0, 17), 1);
        DUE.is("its plate", x.log(0, 27), 3);
        DUE.is("its beats", x.log(0, 37), 7);
    }

    private static void countEdges() {
        DUE.says("Promise 22: How many there are of a sort. -2 for another one");
        PlateRunner x = Given.log("", "");
        Tape.tell(x, 2, NONE, "");
        DUE.is("stages", x.count(0), 1);
        DUE.is("shows", x.count(1), 0);
        DUE.is("logs", x.count(2), 2);
        DUE.is("sort -1", x.count(-1), -2);
        DUE.is("sort 3", x.count(3), -2);
        for (int far : Given.FAR_OFF) DUE.is("sort " + far, x.count(far), -2);
    }

    private static void imageEdges() {
        DUE.says("Promise 23: Image k (0 .. 2): true; false for another k");
        PlateRunner x = Given.stage("speed 3;");
        DUE.is("image -1", x.image(-1), false);
        DUE.is("image 3", x.image(3), false);
        for (int far : Given.FAR_OFF) DUE.is("image " + far, x.image(far), false);
        DUE.says("Promise 24: false if there is none such");
        for (int k = -1; k < 4; k++) DUE.is("again " + k, x.again(k), false);
        for (int far : Given.FAR_OFF) DUE.is("again " + far, x.again(far), false);
        DUE.is("and nothing changes", x.stage(0, 0), 3);
        for (int k = 0; k < 3; k++) {
            DUE.is("image " + k, x.image(k), true);
            DUE.is("again " + k, x.again(k), true);
            for (int other = k + 1; other < 4; other++) DUE.is("again " + other, x.again(other), false);
        }
        DUE.is("again -1", x.again(-1), false);
    }

    private static void imageHoldsAll() {
        DUE.says("Promise 23: Image k is all that is told (the tape, the FAULT, too), as it is now");
        PlateRunner x = Given.stage("speed 3;start 4;plate 7 6 5;plate 8 5 4;");
        Tape.tell(x, 0, NONE, "speed 8;");
        Tape.tell(x, 1, NONE, "gust 3;oil 2;");
        Tape.tell(x, 2, NONE, "runs 3;lay 4 9;");
        Tape.tell(x, 2, NONE, "runs 7;");
        Tape.lay(x, "start 7;speed 6;");
        DUE.is("image", x.image(1), true);
        Tape.tell(x, 0, 0, "plate 0 1 1;");
        Tape.tell(x, 0, 1, "");
        Tape.tell(x, 1, 0, "wait;wait;wait;");
        Tape.tell(x, 1, NONE, "");
        Tape.tell(x, 2, 0, "runs 2;stood 0 0;stood 0 1;");
        Tape.tell(x, 2, NONE, "");
        Tape.lay(x, "!!!!!!!!!!!!!!!!!!!!!!!!");
        for (int round = 0; round < 2; round++) {
            DUE.says("Promise 24: All that is as image k has it: true");
            DUE.is("again", x.again(1), true);
            DUE.is("fault", x.fault(0), 2);
            DUE.is("its place", x.fault(1), 5);
            int[] counts = {2, 1, 1};
            for (int sort = 0; sort < 3; sort++) DUE.is("count", x.count(sort), counts[sort]);
            int[] whats = {0, 1, 2, 10, 11, 20, 21, 30, 31, 12};
            int[] stage = {3, 4, 2, 7, 8, 6, 5, 5, 4, NONE};
            for (int i = 0; i < whats.length; i++) DUE.is("stage " + whats[i], x.stage(0, whats[i]), stage[i]);
            DUE.is("the other stage", x.stage(1, 0), 8);
            int[] deeds = {3, 3, 4, 2};
            for (int i = 0; i < 4; i++) DUE.is("deed", x.deed(0, i / 2, i % 2), deeds[i]);
            DUE.is("deeds", x.deed(0, NONE, 0), 2);
            int[] logWhats = {0, 1, 10, 20, 30};
            int[] log = {3, 1, 0, 4, 9};
            for (int i = 0; i < 5; i++) DUE.is("log", x.log(0, logWhats[i]), log[i]);
            DUE.is("the tape", x.end(17), NONE);
            DUE.is("the tape", x.end(16), 16);
            DUE.is("the tape's text", x.text(0, 1), 1);
            DUE.is("the tape's text", x.stage(1, 0), 6);
            DUE.is("the tape's text", x.stage(1, 1), 7);
            Tape.tell(x, 0, 0, "speed 1;");
        }
    }

    private static void imageOfNothing() {
        DUE.says("Promise 24: All that is as image k has it (of a new object's image)");
        PlateRunner x = new PlateRunner();
        x.image(0);
        Given.and(Given.and(Given.and(x, 0, "plate 0 1 1;"), 1, "wait;"), 2, "runs 0;");
        Tape.tell(x, 0, 0, "?");
        Tape.lay(x, "speed 1;");
        DUE.is("again", x.again(0), true);
        for (int sort = 0; sort < 3; sort++) DUE.is("count", x.count(sort), 0);
        DUE.is("no stage", x.stage(0, 0), NONE);
        DUE.is("no show", x.deed(0, NONE, 0), -2);
        DUE.is("no log", x.log(0, 0), NONE);
        DUE.is("no fault", x.fault(0), 0);
        DUE.is("no place", x.fault(1), NONE);
        DUE.is("no tape", x.end(1), NONE);
        DUE.is("told from 0 on", Tape.tell(x, 0, NONE, ""), 0);
    }

    private static void imagesAreThree() {
        DUE.says("Promise 23: Image k, as it is now");
        PlateRunner x = Given.stage("speed 1;");
        for (int k = 0; k < 3; k++) {
            Given.and(x, 0, "speed " + (k + 4) + ";");
            x.image(k);
        }
        for (int k : new int[] {2, 0, 1, 0, 2}) {
            DUE.is("again " + k, x.again(k), true);
            DUE.is("its own", x.stage(0, 0), k + 4);
        }
        Given.and(x, 0, "speed 9;");
        DUE.is("image anew", x.image(1), true);
        x.again(0);
        DUE.is("the others stay", x.stage(0, 0), 4);
        x.again(1);
        DUE.is("the later one", x.stage(0, 0), 9);
        DUE.says("Promise 24: images are not told, and stay");
        x.again(0);
        DUE.is("one taken later stays", x.again(1), true);
        DUE.is("one taken later stays", x.stage(0, 0), 9);
    }

    private static void fiveHundredAndTwelveCalls() {
        DUE.says("An object is used for at most 512 calls");
        PlateRunner x = new PlateRunner();
        for (int i = 0; i < 128; i++) {
            x.feed(0x73706565, 0x64203020 + (1 + i % 9 << 8), 0x3b202020, 0x20202020, 0x20202020);
            x.end(9);
            DUE.is("text " + i, x.text(0, i == 0 ? NONE : 0), 0);
            DUE.is("speed " + i, x.stage(0, 0), 1 + i % 9);
        }
    }
}
