/** Term 1: each sentence of it that names an edge: what texts tell, and their FAULTS with their places. */
public final class TextEdgesTest {
    private static final Due DUE = new Due();
    private static final int NONE = PlateRunner.NONE;
    private static final int STAGE = 0;
    private static final int SHOW = 1;
    private static final int LOG = 2;
    private static final String PLATE = "plate 0 1 1;";

    public static void main(String[] args) {
        atFirst();
        speeds();
        starts();
        platesMany();
        placesLivesLefts();
        leftAboveLife();
        deedsMany();
        deedPlates();
        runs();
        factsMany();
        factNumbers();
        blanks();
        words();
        numbers();
        asLongAsTheyGo();
        unknownBytes();
        wordsOfOtherSorts();
        linesCutShort();
        laterOnesStrike();
        furtherOnes();
        faultOneOutweighs();
        faultOneIsTheFirst();
        theEndsPlace();
        firstByPlace();
        fullTapes();
        DUE.finish();
    }

    private static void good(int sort, String text) {
        fault(sort, text, 0, NONE);
    }

    private static void fault(int sort, String text, int fault, int place) {
        PlateRunner x = new PlateRunner();
        DUE.is("text " + text, Tape.tell(x, sort, NONE, text), fault == 0 ? 0 : NONE);
        DUE.is("fault of " + text, x.fault(0), fault);
        DUE.is("place in " + text, x.fault(1), place);
        DUE.is("told by " + text, x.count(sort), fault == 0 ? 1 : 0);
    }

    private static void atFirst() {
        DUE.says("SPEED (2 at first), START (0 at first), PLATES; DEEDS; RUNS (1 at first), FACTS: of an empty text");
        for (String empty : new String[] {"", " ", "\n", " \n \n\n  "}) {
            for (int sort = 0; sort < 3; sort++) good(sort, empty);
            PlateRunner x = Given.stage(empty);
            int[] stage = {2, 0, 0};
            for (int what = 0; what < 3; what++) DUE.is("stage " + what, x.stage(0, what), stage[what]);
            DUE.is("deeds", Given.show("", empty).deed(0, NONE, 0), 0);
            DUE.is("runs", Given.log("", empty).log(0, 0), 1);
            DUE.is("facts", Given.log("", empty).log(0, 1), 0);
        }
    }

    private static void speeds() {
        DUE.says("a SPEED, 1 .. 9");
        for (int n = 0; n < 100; n++) fault(STAGE, "speed " + n + ";", n >= 1 && n <= 9 ? 0 : 2, n >= 1 && n <= 9 ? NONE : 6);
        for (int n = 1; n <= 9; n++) DUE.is("speed", Given.stage("speed " + n + ";").stage(0, 0), n);
    }

    private static void starts() {
        DUE.says("a START, a place, 0 .. 9");
        for (int n = 0; n < 100; n++) fault(STAGE, "start " + n + ";", n <= 9 ? 0 : 2, n <= 9 ? NONE : 6);
        for (int n = 0; n <= 9; n++) DUE.is("start", Given.stage("start " + n + ";").stage(0, 1), n);
    }

    private static void platesMany() {
        DUE.says("PLATES, at most 5; FAULT 3 a 6th PLATE, at its first token");
        for (int n = 0; n <= 8; n++) {
            fault(STAGE, PLATE.repeat(n), n <= 5 ? 0 : 3, n <= 5 ? NONE : 60);
            if (n <= 5) DUE.is("plates", Given.stage(PLATE.repeat(n)).stage(0, 2), n);
        }
        fault(STAGE, PLATE.repeat(5) + "speed 3;start 3;speed 3;", 0, NONE);
        fault(STAGE, PLATE.repeat(5) + "speed 3; \n" + PLATE, 3, 70);
    }

    private static void placesLivesLefts() {
        for (int n = 0; n < 100; n++) {
            DUE.says("a PLACE, 0 .. 9");
            fault(STAGE, "plate " + n + " 6 6;", n <= 9 ? 0 : 2, n <= 9 ? NONE : 6);
            DUE.says("LIFE, 1 .. 6");
            fault(STAGE, "plate 0 " + n + " 1;", n >= 1 && n <= 6 ? 0 : 2, n >= 1 && n <= 6 ? NONE : 8);
            DUE.says("LEFT, 1 .. 6");
            fault(STAGE, "plate 0 6 " + n + ";", n >= 1 && n <= 6 ? 0 : 2, n >= 1 && n <= 6 ? NONE : 10);
        }
        PlateRunner x = Given.stage("plate 0 1 1;plate 9 6 6;plate 9 6 1;");
        int[] dues = {0, 9, 9, 1, 6, 6, 1, 6, 1};
        for (int i = 0; i < 9; i++) DUE.is("as told", x.stage(0, 10 + i / 3 * 10 + i % 3), dues[i]);
    }

    private static void leftAboveLife() {
        DUE.says("LEFT not above LIFE");
        for (int life = 1; life <= 6; life++)
            for (int left = 1; left <= 6; left++)
                fault(STAGE, "plate 0 " + life + " " + left + ";", left <= life ? 0 : 2, left <= life ? NONE : 10);
    }

    private static void deedsMany() {
        DUE.says("DEEDS, at most 40; FAULT 3 a 41st DEED, at its first token");
        for (int n = 38; n <= 44; n++) {
            fault(SHOW, "wait;".repeat(n), n <= 40 ? 0 : 3, n <= 40 ? NONE : 200);
            if (n <= 40) DUE.is("deeds", Given.show("", "wait;".repeat(n)).deed(0, NONE, 0), n);
        }
        String[] deeds = {"wait;", "run 0;", "set 0;", "gust 0;", "oil 0;"};
        for (String deed : deeds) {
            fault(SHOW, deed.repeat(40), 0, NONE);
            fault(SHOW, deed.repeat(41), 3, 40 * deed.length());
            fault(SHOW, deed.repeat(40) + " wait;", 3, 40 * deed.length() + 1);
            fault(SHOW, "wait;".repeat(40) + deed, 3, 200);
        }
    }

    private static void deedPlates() {
        DUE.says("('run' | 'set' | 'gust' | 'oil') NUMBER (a PLATE, 0 .. 4)");
        String[] words = {"run ", "set ", "gust ", "oil "};
        for (int kind = 1; kind <= 4; kind++) {
            String word = words[kind - 1];
            for (int n = 0; n < 100; n++) fault(SHOW, word + n + ";", n <= 4 ? 0 : 2, n <= 4 ? NONE : word.length());
            PlateRunner x = Given.show("", word + "4;");
            DUE.is(word, x.deed(0, 0, 0), kind);
            DUE.is(word, x.deed(0, 0, 1), 4);
        }
    }

    private static void runs() {
        DUE.says("RUNS, 0 .. 4");
        for (int n = 0; n < 100; n++) fault(LOG, "runs " + n + ";", n <= 4 ? 0 : 2, n <= 4 ? NONE : 5);
        for (int n = 0; n <= 4; n++) DUE.is("runs", Given.log("", "runs " + n + ";").log(0, 0), n);
    }

    private static void factsMany() {
        DUE.says("FACTS, at most 8; FAULT 3 a 9th FACT, at its first token");
        for (int n = 0; n <= 11; n++) {
            fault(LOG, "lay 0 0;".repeat(n), n <= 8 ? 0 : 3, n <= 8 ? NONE : 64);
            fault(LOG, "stood 0 0;".repeat(n), n <= 8 ? 0 : 3, n <= 8 ? NONE : 80);
            if (n <= 8) DUE.is("facts", Given.log("", "lay 0 0;".repeat(n)).log(0, 1), n);
        }
        fault(LOG, "lay 0 0;".repeat(4) + "stood 0 0;".repeat(4) + "runs 2;", 0, NONE);
        fault(LOG, "lay 0 0;".repeat(4) + "stood 0 0;".repeat(4) + "runs 2;stood 1 1;", 3, 79);
    }

    private static void factNumbers() {
        for (String word : new String[] {"stood ", "lay "}) {
            for (int n = 0; n < 100; n++) {
                DUE.says("('stood' | 'lay') NUMBER NUMBER (a PLATE, 0 .. 4)");
                fault(LOG, word + n + " 0;", n <= 4 ? 0 : 2, n <= 4 ? NONE : word.length());
                DUE.says("behind so many beats, 0 .. 30");
                fault(LOG, word + "4 " + n + ";", n <= 30 ? 0 : 2, n <= 30 ? NONE : word.length() + 2);
            }
        }
    }

    private static void blanks() {
        DUE.says("blanks (10, 32) between");
        for (int b = 0; b < 256; b++) {
            char c = (char) b;
            boolean blank = b == 10 || b == 32;
            // Letters and digits would make longer tokens of their neighbours, or others.
            if (c >= 'a' && c <= 'z' || c >= '0' && c <= '9' || c == ';') continue;
            fault(STAGE, "speed" + c + "3;", blank ? 0 : 1, blank ? NONE : 5);
            fault(STAGE, c + "speed 3;", blank ? 0 : 1, blank ? NONE : 0);
            fault(STAGE, "speed 3" + c + ";", blank ? 0 : 1, blank ? NONE : 7);
            fault(STAGE, "speed 3;" + c, blank ? 0 : 1, blank ? NONE : 8);
            fault(STAGE, "plate 0" + c + "1 1;", blank ? 0 : 1, blank ? NONE : 7);
        }
        good(STAGE, " \n speed \n\n 3 \n ; \n plate\n0\n1\n1\n;\n\n");
        DUE.says("blanks between: none need be, where tokens end by themselves");
        good(STAGE, "speed3;start4;plate1 2 2;");
        good(SHOW, "wait;run1;set2;gust3;oil4;");
        good(LOG, "runs1;stood2 30;lay3 4;");
    }

    private static void words() {
        DUE.says("words, rows of letters a .. z");
        for (String word : new String[] {"speeds", "spee", "s", "a", "z", "abcdefghijklmnopqrstuvwxyz", "starts", "plat", "plates"})
            fault(STAGE, word + " 1;", 1, 0);
        for (String word : new String[] {"waits", "wai", "runn", "ru", "sett", "se", "gusts", "gus", "oils", "oi", "az"})
            fault(SHOW, word + " 1;", 1, 0);
        for (String word : new String[] {"runss", "run", "stoo", "stoodd", "la", "layy"}) fault(LOG, word + " 1 1;", 1, 0);
        String[][] known = {{"speed", "start", "plate"}, {"wait", "run", "set", "gust", "oil"}, {"runs", "stood", "lay"}};
        for (int sort = 0; sort < 3; sort++) {
            for (String word : known[sort]) {
                for (char c = 'a'; c <= 'z'; c++) {
                    // As long as it goes: a letter more makes another word, at the place where it begins.
                    fault(sort, word + c + " 1 1 1;", 1, 0);
                    fault(sort, c + word + " 1 1 1;", 1, 0);
                    for (int i = 0; i < word.length(); i++)
                        if (word.charAt(i) != c) fault(sort, word.substring(0, i) + c + word.substring(i + 1) + " 1 1 1;", 1, 0);
                }
            }
        }
        for (char c : new char[] {'`', '{', 'A', 'Z', '@', '['}) {
            fault(STAGE, c + "", 1, 0);
            fault(STAGE, "speed" + c + " 1;", 1, 5);
        }
        fault(STAGE, "Speed 1;", 1, 0);
        fault(STAGE, "speeD 1;", 1, 0);
        fault(STAGE, "spe ed 1;", 1, 0);
    }

    private static void numbers() {
        DUE.says("NUMBERS, 1 or 2 digits; a longer row of digits is no token");
        for (String zeros : new String[] {"", "0"}) {
            for (int n = 1; n <= 9; n++) DUE.is("speed", Given.stage("speed " + zeros + n + ";").stage(0, 0), n);
        }
        good(STAGE, "start 00;");
        good(LOG, "lay 00 30;");
        fault(STAGE, "speed 003;", 1, 6);
        fault(STAGE, "speed 000;", 1, 6);
        fault(STAGE, "speed 100;", 1, 6);
        fault(STAGE, "speed 0000000000000000000000000000003;", 1, 6);
        fault(STAGE, "speed 4294967299;", 1, 6);
        fault(STAGE, "plate 0 1 001;", 1, 10);
        fault(LOG, "lay 0 030;", 1, 6);
        for (char c : new char[] {'/', ':', '-', '+', '.'}) fault(STAGE, "speed " + c + "3;", 1, 6);
        for (char c : new char[] {'/', ':', '-', '.'}) fault(STAGE, "speed 3" + c + "3;", 1, 7);
    }

    private static void asLongAsTheyGo() {
        DUE.says("TOKENS, as long as they go");
        fault(STAGE, "plate 011;", 1, 6);
        fault(STAGE, "plate 01 1;", 1, 10);
        fault(STAGE, "plate 0 11;", 1, 10);
        fault(STAGE, "speedspeed 1;", 1, 0);
        fault(STAGE, "speed 1speed 2;", 1, 7);
        fault(STAGE, "speed 1 2;", 1, 8);
        fault(SHOW, "run 1 2;", 1, 6);
        fault(SHOW, "waitwait;", 1, 0);
        fault(SHOW, "wait;;", 1, 5);
        fault(LOG, "runs 1 1;", 1, 7);
        fault(LOG, "lay 1 1 1;", 1, 8);
    }

    private static void unknownBytes() {
        DUE.says("FAULT 1 the first byte with which no text goes on");
        for (int b = 0; b < 256; b++) {
            char c = (char) b;
            boolean token = c >= 'a' && c <= 'z' || c >= '0' && c <= '9' || c == ';' || c == ' ' || c == '\n';
            if (token) continue;
            for (int sort = 0; sort < 3; sort++) fault(sort, "  " + c + " speed 3;", 1, 2);
            fault(SHOW, "wait" + c, 1, 4);
            fault(SHOW, "run 1" + c, 1, 5);
            fault(LOG, "runs 1;" + c, 1, 7);
        }
    }

    private static void wordsOfOtherSorts() {
        DUE.says("FAULT 1 the first token with which no text goes on: a word of another sort's text");
        String[][] lines = {{"speed 1;", "start 1;", "plate 1 1 1;"}, {"wait;", "run 1;", "set 1;", "gust 1;", "oil 1;"},
            {"runs 1;", "stood 1 1;", "lay 1 1;"}};
        for (int sort = 0; sort < 3; sort++) {
            for (int of = 0; of < 3; of++) {
                for (String line : lines[of]) {
                    if (of == sort) good(sort, line);
                    else fault(sort, line, 1, 0);
                    if (of != sort) fault(sort, lines[sort][0] + line, 1, lines[sort][0].length());
                }
            }
        }
    }

    private static void linesCutShort() {
        DUE.says("FAULT 1 the first token with which no text goes on: in the place of a NUMBER or of ';'");
        fault(STAGE, ";", 1, 0);
        fault(STAGE, "1", 1, 0);
        fault(STAGE, "speed;", 1, 5);
        fault(STAGE, "speed speed;", 1, 6);
        fault(STAGE, "speed 1 start 1;", 1, 8);
        fault(STAGE, "plate;", 1, 5);
        fault(STAGE, "plate 0;", 1, 7);
        fault(STAGE, "plate 0 1;", 1, 9);
        fault(STAGE, "plate 0 1 1 1;", 1, 12);
        fault(STAGE, "plate 0 1 1 plate 0 1 1;", 1, 12);
        fault(SHOW, "wait 1;", 1, 5);
        fault(SHOW, "wait wait;", 1, 5);
        fault(SHOW, "run;", 1, 3);
        fault(SHOW, "gust oil 1;", 1, 5);
        fault(LOG, "runs;", 1, 4);
        fault(LOG, "stood;", 1, 5);
        fault(LOG, "stood 1;", 1, 7);
        fault(LOG, "lay 1;", 1, 5);
    }

    private static void laterOnesStrike() {
        DUE.says("Later ones strike (speed, start, runs)");
        PlateRunner x = Given.stage("speed 3;start 4;speed 5;plate 0 1 1;speed 7;start 0;");
        DUE.is("speed", x.stage(0, 0), 7);
        DUE.is("start", x.stage(0, 1), 0);
        DUE.is("runs", Given.log("", "runs 4;lay 0 0;runs 0;runs 3;").log(0, 0), 3);
        DUE.says("FAULT 2 of one that a later one would strike");
        fault(STAGE, "speed 0;speed 3;", 2, 6);
        fault(STAGE, "start 10;start 3;", 2, 6);
        fault(LOG, "runs 5;runs 3;", 2, 5);
    }

    private static void furtherOnes() {
        DUE.says("all others, which are further ones");
        PlateRunner x = Given.stage("plate 1 2 1;plate 1 2 1;plate 3 4 4;");
        DUE.is("plates", x.stage(0, 2), 3);
        int[] dues = {1, 1, 3, 2, 2, 4, 1, 1, 4};
        for (int i = 0; i < 9; i++) DUE.is("from 0 on", x.stage(0, 10 + i / 3 * 10 + i % 3), dues[i]);
        DUE.is("deeds", Given.show("", "run 0;run 0;run 0;").deed(0, NONE, 0), 3);
        DUE.is("facts", Given.log("", "lay 0 0;lay 0 0;stood 0 0;").log(0, 1), 3);
    }

    private static void faultOneOutweighs() {
        DUE.says("FAULT 1; if there is none, the first by place of 2 and 3");
        fault(STAGE, "speed 0;?", 1, 8);
        fault(STAGE, "speed 0;speed", 1, 13);
        fault(STAGE, "speed 99 99;", 1, 9);
        fault(STAGE, "plate 10 7 9 ", 1, 13);
        fault(STAGE, PLATE.repeat(6) + "plate", 1, 77);
        fault(STAGE, PLATE.repeat(40) + "speed 100;", 1, 486);
        fault(SHOW, "run 5;" + "wait;".repeat(41) + "x", 1, 211);
        fault(LOG, "runs 5;" + "lay 0 0;".repeat(9) + "lay 0", 1, 84);
    }

    private static void faultOneIsTheFirst() {
        DUE.says("FAULT 1 the first byte or token");
        fault(STAGE, "speed ? 100 ;;", 1, 6);
        fault(STAGE, "speed 100 ? ;;", 1, 6);
        fault(STAGE, "speed 1 1 ?", 1, 8);
        fault(STAGE, "wait wait", 1, 0);
        fault(STAGE, "speed 1;wait;?", 1, 8);
    }

    private static void theEndsPlace() {
        DUE.says("with places (a token's first byte; the end's)");
        fault(STAGE, "speed", 1, 5);
        fault(STAGE, "speed 3", 1, 7);
        fault(STAGE, "speed 3 ", 1, 8);
        fault(STAGE, "speed \n \n", 1, 9);
        fault(STAGE, "plate 0 1 1", 1, 11);
        fault(STAGE, "   speed", 1, 8);
        fault(SHOW, "wait", 1, 4);
        fault(LOG, "stood 1 ", 1, 8);
        fault(SHOW, " ".repeat(596) + "wait", 1, 600);
        fault(SHOW, " ".repeat(595) + "wait;", 0, NONE);
    }

    private static void firstByPlace() {
        DUE.says("the first by place: 2 a NUMBER that can't be, 3 a 6th PLATE, a 41st DEED, a 9th FACT");
        fault(STAGE, "speed 0;start 10;", 2, 6);
        fault(STAGE, "plate 10 7 7;", 2, 6);
        fault(STAGE, "plate 0 7 7;", 2, 8);
        fault(STAGE, "plate 0 0 0;", 2, 8);
        fault(STAGE, PLATE.repeat(5) + "plate 10 1 1;", 3, 60);
        fault(STAGE, PLATE.repeat(5) + PLATE + "speed 0;", 3, 60);
        fault(STAGE, PLATE.repeat(5) + "speed 0;" + PLATE, 2, 66);
        fault(STAGE, PLATE.repeat(4) + "plate 0 1 2;" + PLATE, 2, 58);
        fault(SHOW, "wait;".repeat(40) + "run 5;", 3, 200);
        fault(SHOW, "wait;".repeat(39) + "run 5;wait;", 2, 199);
        fault(LOG, "lay 0 0;".repeat(8) + "lay 5 31;", 3, 64);
        fault(LOG, "lay 0 0;".repeat(7) + "lay 5 31;lay 0 0;", 2, 60);
        fault(LOG, "lay 5 31;", 2, 4);
    }

    private static void fullTapes() {
        DUE.says("THE TAPE has at most 600 bytes");
        PlateRunner x = Given.stage("speed 3;".repeat(74) + "speed 4;");
        DUE.is("600 bytes", x.stage(0, 0), 4);
        fault(STAGE, "speed 3;".repeat(74) + "speed 0;", 2, 598);
        fault(SHOW, "wait;".repeat(120), 3, 200);
        fault(SHOW, ";".repeat(600), 1, 0);
        fault(STAGE, "speed " + "1".repeat(594), 1, 6);
        fault(STAGE, "a".repeat(600), 1, 0);
    }
}
