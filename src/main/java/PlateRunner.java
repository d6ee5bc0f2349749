/**
 * Spinning plates on poles: stages, shows and logs told as texts, and what can be asked of them.
 * The numbered promises of the document say what each public method answers.
 */
public final class PlateRunner {
    public static final int NONE = -1;

    private static final int NO_SUCH = -2;
    private static final int NO_GAME = -9;

    private static final int STAGES = 0;
    private static final int SHOWS = 1;
    private static final int LOGS = 2;
    private static final int SORTS = 3;
    private static final int MOST_OF_A_SORT = 2;
    private static final int IMAGES = 3;

    private static final int MOST_BYTES = 600;
    private static final int MOST_PLATES = 5;
    private static final int MOST_DEEDS = 40;
    private static final int MOST_FACTS = 8;
    private static final int MOST_RUNS = 4;
    private static final int PLACES = 10;
    private static final int MOST_SPEED = 9;
    private static final int MOST_LIFE = 6;
    private static final int MOST_BEATS = 99;
    private static final int MOST_IN_ROW = 99;
    private static final int MOST_DRAWS = 60;
    private static final int MOST_SAVE = 6;
    private static final int MOST_DUEL = 3;

    private static final int WAIT = 0;
    private static final int RUN = 1;
    private static final int SET = 2;
    private static final int GUST = 3;
    private static final int OIL = 4;

    private final Told told;
    private final Told[] images;
    private final boolean[] imaged;
    private final Reader reader;
    private final Player player;
    private final Keeper keeper;
    private final Trials trials;
    private final Rows rows;

    public PlateRunner() {
        told = new Told();
        images = new Told[IMAGES];
        for (int k = 0; k < images.length; k++) {
            images[k] = new Told();
        }
        imaged = new boolean[IMAGES];
        reader = new Reader();
        player = new Player();
        trials = new Trials();
        keeper = trials.keeper;
        rows = new Rows();
    }

    public int feed(int a, int b, int c, int d, int e) {
        if (told.length + 20 > MOST_BYTES) {
            return NONE;
        }
        told.addBytes(a);
        told.addBytes(b);
        told.addBytes(c);
        told.addBytes(d);
        told.addBytes(e);
        return told.length;
    }

    public int end(int n) {
        if (n < 0 || n > told.length) {
            return NONE;
        }
        told.length = n;
        return n;
    }

    public int text(int sort, int at) {
        int number = numberFor(sort, at);
        if (number == NO_SUCH) {
            told.length = 0;
            told.fault = 0;
            told.faultAt = NONE;
            return NO_SUCH;
        }
        reader.readTape(told, sort);
        told.length = 0;
        told.fault = reader.fault;
        told.faultAt = reader.faultAt;
        if (reader.fault != 0) {
            return NONE;
        }
        takeRead(sort, number);
        return number;
    }

    public int fault(int what) {
        switch (what) {
            case 0: return told.fault;
            case 1: return told.faultAt;
            default: return NONE;
        }
    }

    public int stage(int stage, int what) {
        Stage asked = told.stageAt(stage);
        if (asked == null) {
            return NONE;
        }
        switch (what) {
            case 0: return asked.speed;
            case 1: return asked.start;
            case 2: return asked.plates;
            default: return asked.plateFact(what);
        }
    }

    public int deed(int show, int k, int what) {
        Show asked = told.showAt(show);
        if (asked == null) {
            return NO_SUCH;
        }
        if (k == NONE) {
            return what == 0 ? asked.deeds : NO_SUCH;
        }
        if (!asked.has(k)) {
            return NO_SUCH;
        }
        switch (what) {
            case 0: return asked.kind[k];
            case 1: return asked.plate[k];
            default: return NO_SUCH;
        }
    }

    public int stop(int stage, int show) {
        Stage at = told.stageAt(stage);
        Show asked = told.showAt(show);
        if (at == null || asked == null) {
            return NONE;
        }
        return player.play(at, asked, MOST_DEEDS);
    }

    public int state(int stage, int show, int n, int what) {
        Stage at = told.stageAt(stage);
        Show asked = told.showAt(show);
        if (at == null || asked == null || n < 0) {
            return NONE;
        }
        if (player.play(at, asked, n) < n) {
            return NONE;
        }
        return player.view(what);
    }

    public int keep(int stage, int what) {
        Stage asked = told.stageAt(stage);
        if (asked == null) {
            return NO_SUCH;
        }
        if (what >= 10 && what - 10 <= MOST_IN_ROW) {
            keeper.exploreAll(asked);
            return keeper.rowPlate(what - 10);
        }
        if (what < 0 || what > 5) {
            return NO_SUCH;
        }
        keeper.exploreAll(asked);
        return keeper.answer(what);
    }

    public int need(int stage, int what) {
        Stage asked = told.stageAt(stage);
        if (asked == null) {
            return NO_SUCH;
        }
        switch (what) {
            case 0: return trials.leastSpeed(asked);
            case 1: return trials.startPlaces(asked);
            case 2: return Integer.bitCount(trials.mostKept(asked));
            case 3: return trials.mostKept(asked);
            case 4: return trials.sparePlates(asked);
            case 5: keeper.exploreAll(asked);
                return keeper.reached();
            case 6: keeper.exploreAll(asked);
                return keeper.safe();
            default: return needOfPlate(asked, what);
        }
    }

    public int behind(int stage, int plate, int what) {
        Stage asked = told.stageAt(stage);
        if (asked == null || !asked.has(plate) || what < 0 || what > 2) {
            return NO_SUCH;
        }
        keeper.exploreAll(asked);
        int to = keeper.behindFirst(plate);
        if (what == 0) {
            return to == NONE ? 0 : 1;
        }
        if (to == NONE) {
            return NO_SUCH;
        }
        if (what == 1) {
            return keeper.isForever(to) ? 1 : 0;
        }
        return keeper.lastsFrom(to);
    }

    public int save(int stage, int n, boolean first) {
        Stage asked = told.stageAt(stage);
        if (asked == null || n < 0 || n > MOST_SAVE) {
            return NO_GAME;
        }
        if (first && n == 0) {
            return NONE;
        }
        int best = Games.saving(asked, n);
        return first ? Games.choiceOf(best) : Games.valueOf(best);
    }

    public int duel(int stage, int n, boolean first) {
        Stage asked = told.stageAt(stage);
        if (asked == null || n < 0 || n > MOST_DUEL) {
            return NO_GAME;
        }
        if (first && n == 0) {
            return NONE;
        }
        int best = Games.duelling(asked, n);
        return first ? Games.choiceOf(best) : Games.valueOf(best);
    }

    public int odds(int stage, int plate, int p, int n, boolean under) {
        Stage asked = told.stageAt(stage);
        if (asked == null || !asked.has(plate)) {
            return NONE;
        }
        if (p < 0 || p > 10 || n < 0 || n > 6) {
            return NONE;
        }
        int over = waysToStand(asked.left[plate], p, n);
        int all = power(10, n);
        int common = commonDivisor(over, all);
        return (under ? all : over) / Math.max(1, common);
    }

    public int log(int log, int what) {
        Log asked = told.logAt(log);
        if (asked == null) {
            return NONE;
        }
        switch (what) {
            case 0: return asked.runs;
            case 1: return asked.facts;
            default: return asked.factPart(what);
        }
    }

    public int fits(int stage, int log, int what) {
        Stage at = told.stageAt(stage);
        Log asked = told.logAt(log);
        if (at == null || asked == null || what < 0) {
            return NO_SUCH;
        }
        if (what > 5 && what < 10) {
            return NO_SUCH;
        }
        rows.tally(at, asked, what - 10);
        if (what == 0) {
            return rows.fitting;
        }
        if (what == 1) {
            return rows.bestQuestion(at.plates);
        }
        return what < 10 ? rows.sureRun(what - 2) : rows.asked;
    }

    public int drawn(int stage, int seed, int n, int what) {
        Stage at = told.stageAt(stage);
        if (at == null || n < 0 || n > MOST_DRAWS) {
            return NONE;
        }
        player.playDrawn(at, seed, n);
        return player.view(what);
    }

    public int load(int stage, int what) {
        Stage asked = told.stageAt(stage);
        if (asked == null) {
            return NO_SUCH;
        }
        switch (what) {
            case 0: return asked.loadPart(false);
            case 1: return asked.loadPart(true);
            case 2: return asked.plates == 0 ? NONE : Beats.soonest(asked, asked.packed());
            case 3: return asked.span();
            case 4: return asked.closeCouples();
            case 5: return trials.alonePlates(asked);
            case 6: return trials.couplesAlone(asked);
            case 7: return asked.latePlates();
            case 8: return Beats.inRow(asked) == MOST_IN_ROW || asked.plates == 0 ? 1 : 0;
            case 9: return Beats.inRow(asked);
            case 10: return asked.centre();
            case 11: return asked.waysFrom(asked.centre());
            case 12: return trials.bestSwap(asked);
            default: return what >= 20 ? asked.falling(what - 20) : NO_SUCH;
        }
    }

    public int after(int stage, int show, int what) {
        Stage at = told.stageAt(stage);
        Show asked = told.showAt(show);
        if (at == null || asked == null) {
            return NO_SUCH;
        }
        player.play(at, asked, MOST_DEEDS);
        switch (what) {
            case 0: return player.firstFell;
            case 1: return player.vain;
            case 2: return player.mostSpun();
            case 3: return player.longest;
            case 4: return player.ways;
            case 5: return player.most;
            default: return NO_SUCH;
        }
    }

    public int least(int stage, int log, int what) {
        Stage at = told.stageAt(stage);
        Log asked = told.logAt(log);
        if (at == null || asked == null) {
            return NONE;
        }
        rows.tally(at, asked, NONE);
        switch (what) {
            case 0: return rows.fewestBeats;
            case 1: return rows.mostBeats;
            case 2: return rows.mostUp;
            default: return NONE;
        }
    }

    public int count(int sort) {
        return told.has(sort) ? told.counts[sort] : NO_SUCH;
    }

    public boolean image(int k) {
        if (k < 0 || k >= images.length || k >= imaged.length) {
            return false;
        }
        images[k].copyFrom(told);
        imaged[k] = true;
        return true;
    }

    public boolean again(int k) {
        if (k < 0 || k >= images.length || k >= imaged.length || !imaged[k]) {
            return false;
        }
        told.copyFrom(images[k]);
        return true;
    }

    /** The number that a text of a sort would have, or NO_SUCH. */
    private int numberFor(int sort, int at) {
        if (!told.has(sort)) {
            return NO_SUCH;
        }
        int there = told.counts[sort];
        if (at == NONE) {
            return there < MOST_OF_A_SORT ? there : NO_SUCH;
        }
        return at >= 0 && at < there ? at : NO_SUCH;
    }

    private void takeRead(int sort, int number) {
        if (!told.has(sort) || number < 0 || number >= MOST_OF_A_SORT) {
            return;
        }
        if (number == told.counts[sort]) {
            told.counts[sort]++;
        }
        switch (sort) {
            case STAGES: told.stages[number].copyFrom(reader.stage);
                break;
            case SHOWS: told.shows[number].copyFrom(reader.show);
                break;
            default: told.logs[number].copyFrom(reader.log);
                break;
        }
    }

    private int needOfPlate(Stage asked, int what) {
        if (asked.has(what - 10)) {
            return trials.leastLife(asked, what - 10);
        }
        if (asked.has(what - 20)) {
            return trials.movePlaces(asked, what - 20);
        }
        return NO_SUCH;
    }

    /** Of 10 to the n ways in which the beats may go, those behind which the plate still stands. */
    private static int waysToStand(int left, int p, int n) {
        int sum = 0;
        int choices = 1;
        for (int twos = 0; twos <= n; twos++) {
            if (n + twos < left) {
                sum += choices * power(p, twos) * power(10 - p, n - twos);
            }
            choices = choices * (n - twos) / (twos + 1);
        }
        return sum;
    }

    private static int power(int base, int times) {
        int result = 1;
        for (int i = 0; i < times; i++) {
            result *= base;
        }
        return result;
    }

    private static int commonDivisor(int a, int b) {
        int greater = a;
        int lesser = b;
        for (int step = 0; step < 100 && lesser != 0; step++) {
            int rest = greater % lesser;
            greater = lesser;
            lesser = rest;
        }
        return greater;
    }

    /** All that an image holds. */
    private static final class Told {
        final byte[] tape = new byte[MOST_BYTES];
        int length = 0;
        int fault = 0;
        int faultAt = NONE;
        final int[] counts = new int[SORTS];
        final Stage[] stages = new Stage[MOST_OF_A_SORT];
        final Show[] shows = new Show[MOST_OF_A_SORT];
        final Log[] logs = new Log[MOST_OF_A_SORT];

        Told() {
            for (int k = 0; k < MOST_OF_A_SORT; k++) {
                stages[k] = new Stage();
                shows[k] = new Show();
                logs[k] = new Log();
            }
        }

        void addBytes(int four) {
            for (int shift = 24; shift >= 0 && length < tape.length; shift -= 8) {
                tape[length] = (byte) (four >>> shift);
                length++;
            }
        }

        boolean has(int sort) {
            return sort >= 0 && sort < counts.length;
        }

        Stage stageAt(int k) {
            return k >= 0 && k < counts[STAGES] && k < stages.length ? stages[k] : null;
        }

        Show showAt(int k) {
            return k >= 0 && k < counts[SHOWS] && k < shows.length ? shows[k] : null;
        }

        Log logAt(int k) {
            return k >= 0 && k < counts[LOGS] && k < logs.length ? logs[k] : null;
        }

        void copyFrom(Told other) {
            System.arraycopy(other.tape, 0, tape, 0, MOST_BYTES);
            length = other.length;
            fault = other.fault;
            faultAt = other.faultAt;
            System.arraycopy(other.counts, 0, counts, 0, SORTS);
            for (int k = 0; k < MOST_OF_A_SORT; k++) {
                stages[k].copyFrom(other.stages[k]);
                shows[k].copyFrom(other.shows[k]);
                logs[k].copyFrom(other.logs[k]);
            }
        }
    }

    private static final class Stage {
        int speed = 2;
        int start = 0;
        int plates = 0;
        final int[] place = new int[MOST_PLATES];
        final int[] life = new int[MOST_PLATES];
        final int[] left = new int[MOST_PLATES];

        void clear() {
            speed = 2;
            start = 0;
            plates = 0;
        }

        void add(int itsPlace, int itsLife, int itsLeft) {
            if (plates >= MOST_PLATES) {
                return;
            }
            place[plates] = itsPlace;
            life[plates] = itsLife;
            left[plates] = itsLeft;
            plates++;
        }

        void copyFrom(Stage other) {
            speed = other.speed;
            start = other.start;
            plates = other.plates;
            System.arraycopy(other.place, 0, place, 0, MOST_PLATES);
            System.arraycopy(other.life, 0, life, 0, MOST_PLATES);
            System.arraycopy(other.left, 0, left, 0, MOST_PLATES);
        }

        void copySome(Stage other, int bits) {
            speed = other.speed;
            start = other.start;
            plates = 0;
            for (int k = 0; k < other.plates; k++) {
                if ((bits >> k & 1) != 0) {
                    add(other.place[k], other.life[k], other.left[k]);
                }
            }
        }

        boolean isLike(Stage other) {
            if (speed != other.speed || start != other.start || plates != other.plates) {
                return false;
            }
            for (int k = 0; k < plates; k++) {
                if (place[k] != other.place[k] || life[k] != other.life[k] || left[k] != other.left[k]) {
                    return false;
                }
            }
            return true;
        }

        boolean has(int plate) {
            return plate >= 0 && plate < plates;
        }

        int plateFact(int what) {
            int k = what % 10;
            if (!has(k)) {
                return NONE;
            }
            switch (what / 10) {
                case 1: return place[k];
                case 2: return life[k];
                case 3: return left[k];
                default: return NONE;
            }
        }

        int way(int from, int to) {
            int fast = Math.max(1, speed);
            return (Math.abs(from - to) + fast - 1) / fast;
        }

        int packed() {
            int lefts = 0;
            for (int k = 0; k < plates; k++) {
                lefts = Beats.with(lefts, k, left[k]);
            }
            return lefts;
        }

        int loadPart(boolean under) {
            int sum = 0;
            for (int k = 0; k < plates; k++) {
                sum += 60 / Math.max(1, life[k]);
            }
            int common = Math.max(1, commonDivisor(sum, 60));
            return (under ? 60 : sum) / common;
        }

        int span() {
            if (plates == 0) {
                return 0;
            }
            int lowest = place[0];
            int highest = place[0];
            for (int k = 1; k < plates; k++) {
                lowest = Math.min(lowest, place[k]);
                highest = Math.max(highest, place[k]);
            }
            return highest - lowest;
        }

        int closeCouples() {
            int couples = 0;
            for (int i = 0; i < plates; i++) {
                for (int j = i + 1; j < plates; j++) {
                    if (place[i] == place[j]) {
                        couples++;
                    }
                }
            }
            return couples;
        }

        int latePlates() {
            int bits = 0;
            for (int k = 0; k < plates; k++) {
                if (left[k] <= way(start, place[k])) {
                    bits |= 1 << k;
                }
            }
            return bits;
        }

        int waysFrom(int from) {
            int sum = 0;
            for (int k = 0; k < plates; k++) {
                sum += way(from, place[k]);
            }
            return sum;
        }

        int centre() {
            int best = 0;
            for (int from = 1; from < PLACES; from++) {
                if (waysFrom(from) < waysFrom(best)) {
                    best = from;
                }
            }
            return best;
        }

        int falling(int k) {
            for (int p = 0; p < plates; p++) {
                if (fallsBefore(p) == k) {
                    return p;
                }
            }
            return NONE;
        }

        private int fallsBefore(int plate) {
            int ahead = 0;
            for (int q = 0; q < plates; q++) {
                if (left[q] < left[plate] || left[q] == left[plate] && q < plate) {
                    ahead++;
                }
            }
            return ahead;
        }
    }

    private static final class Show {
        int deeds = 0;
        final int[] kind = new int[MOST_DEEDS];
        final int[] plate = new int[MOST_DEEDS];

        void add(int itsKind, int itsPlate) {
            if (deeds >= MOST_DEEDS) {
                return;
            }
            kind[deeds] = itsKind;
            plate[deeds] = itsPlate;
            deeds++;
        }

        boolean has(int k) {
            return k >= 0 && k < deeds;
        }

        void copyFrom(Show other) {
            deeds = other.deeds;
            System.arraycopy(other.kind, 0, kind, 0, MOST_DEEDS);
            System.arraycopy(other.plate, 0, plate, 0, MOST_DEEDS);
        }
    }

    private static final class Log {
        int runs = 1;
        int facts = 0;
        final int[] stood = new int[MOST_FACTS];
        final int[] plate = new int[MOST_FACTS];
        final int[] beats = new int[MOST_FACTS];

        void clear() {
            runs = 1;
            facts = 0;
        }

        void add(int itStood, int itsPlate, int itsBeats) {
            if (facts >= MOST_FACTS) {
                return;
            }
            stood[facts] = itStood;
            plate[facts] = itsPlate;
            beats[facts] = itsBeats;
            facts++;
        }

        int factPart(int what) {
            int k = what % 10;
            if (k < 0 || k >= facts) {
                return NONE;
            }
            switch (what / 10) {
                case 1: return stood[k];
                case 2: return plate[k];
                case 3: return beats[k];
                default: return NONE;
            }
        }

        void copyFrom(Log other) {
            runs = other.runs;
            facts = other.facts;
            System.arraycopy(other.stood, 0, stood, 0, MOST_FACTS);
            System.arraycopy(other.plate, 0, plate, 0, MOST_FACTS);
            System.arraycopy(other.beats, 0, beats, 0, MOST_FACTS);
        }
    }

    /** Reads a tape into a stage, show or log of its own, which count only if there is no fault. */
    private static final class Reader {
        private static final int AT_END = 0;
        private static final int WORD = 1;
        private static final int NUMBER = 2;
        private static final int SEMICOLON = 3;
        private static final int NO_TOKEN = 4;

        private static final int SPEED = 0;
        private static final int START = 1;
        private static final int PLATE = 2;
        private static final int FIRST_DEED = 3;
        private static final int RUNS = 8;
        private static final int STOOD = 9;
        private static final int LAY = 10;

        final Stage stage = new Stage();
        final Show show = new Show();
        final Log log = new Log();
        int fault = 0;
        int faultAt = NONE;
        private byte[] tape = new byte[0];
        private int length = 0;
        private int next = 0;
        private int token = AT_END;
        private int tokenAt = 0;
        private final int[] numbers = new int[3];

        void readTape(Told told, int sort) {
            tape = told.tape;
            length = Math.min(told.length, tape.length);
            next = 0;
            fault = 0;
            faultAt = NONE;
            stage.clear();
            show.deeds = 0;
            log.clear();
            for (int line = 0; line <= MOST_BYTES; line++) {
                nextToken();
                if (token == AT_END || !readLine(sort)) {
                    return;
                }
            }
        }

        /** False: no text goes on so, which outweighs all that was found before. */
        private boolean readLine(int sort) {
            int head = headOf(sort);
            if (head == NONE) {
                return refuse();
            }
            if (isFull(head)) {
                blame(3);
            }
            for (int i = 0; i < numbersOf(head); i++) {
                nextToken();
                if (token != NUMBER) {
                    return refuse();
                }
                numbers[i] = numberRead();
                if (!canBe(head, i)) {
                    blame(2);
                }
            }
            nextToken();
            if (token != SEMICOLON) {
                return refuse();
            }
            tell(head);
            return true;
        }

        private boolean refuse() {
            fault = 1;
            faultAt = tokenAt;
            return false;
        }

        /** Tokens come by their places, so the first one that is blamed has the least place. */
        private void blame(int why) {
            if (fault == 0) {
                fault = why;
                faultAt = tokenAt;
            }
        }

        private void nextToken() {
            while (next < length && isBlank(byteAt(next))) {
                next++;
            }
            tokenAt = next;
            int first = byteAt(next);
            if (first == NONE) {
                token = AT_END;
            } else if (first == ';') {
                token = SEMICOLON;
                next++;
            } else if (isLetter(first)) {
                token = WORD;
                while (next < length && isLetter(byteAt(next))) {
                    next++;
                }
            } else if (isDigit(first)) {
                while (next < length && isDigit(byteAt(next))) {
                    next++;
                }
                token = next - tokenAt <= 2 ? NUMBER : NO_TOKEN;
            } else {
                token = NO_TOKEN;
            }
        }

        private int byteAt(int i) {
            return i >= 0 && i < length && i < tape.length ? tape[i] & 255 : NONE;
        }

        private static boolean isBlank(int b) {
            return b == 10 || b == 32;
        }

        private static boolean isLetter(int b) {
            return b >= 'a' && b <= 'z';
        }

        private static boolean isDigit(int b) {
            return b >= '0' && b <= '9';
        }

        private int numberRead() {
            int value = 0;
            for (int i = tokenAt; i < next; i++) {
                value = value * 10 + byteAt(i) - '0';
            }
            return value;
        }

        private int headOf(int sort) {
            if (token != WORD) {
                return NONE;
            }
            int first = sort == STAGES ? SPEED : sort == SHOWS ? FIRST_DEED : RUNS;
            int last = sort == STAGES ? PLATE : sort == SHOWS ? RUNS - 1 : LAY;
            for (int head = first; head <= last; head++) {
                if (isWord(wordOf(head))) {
                    return head;
                }
            }
            return NONE;
        }

        private boolean isWord(String word) {
            if (next - tokenAt != word.length()) {
                return false;
            }
            for (int i = 0; i < word.length(); i++) {
                if (byteAt(tokenAt + i) != word.charAt(i)) {
                    return false;
                }
            }
            return true;
        }

        private static String wordOf(int head) {
            switch (head) {
                case SPEED: return "speed";
                case START: return "start";
                case PLATE: return "plate";
                case FIRST_DEED + WAIT: return "wait";
                case FIRST_DEED + RUN: return "run";
                case FIRST_DEED + SET: return "set";
                case FIRST_DEED + GUST: return "gust";
                case FIRST_DEED + OIL: return "oil";
                case RUNS: return "runs";
                case STOOD: return "stood";
                default: return "lay";
            }
        }

        private static int numbersOf(int head) {
            switch (head) {
                case PLATE: return 3;
                case STOOD:
                case LAY: return 2;
                case FIRST_DEED + WAIT: return 0;
                default: return 1;
            }
        }

        private boolean isFull(int head) {
            switch (head) {
                case SPEED:
                case START:
                case RUNS: return false;
                case PLATE: return stage.plates >= MOST_PLATES;
                case STOOD:
                case LAY: return log.facts >= MOST_FACTS;
                default: return show.deeds >= MOST_DEEDS;
            }
        }

        private boolean canBe(int head, int i) {
            int value = numbers[i];
            switch (head) {
                case SPEED: return value >= 1 && value <= MOST_SPEED;
                case START: return value < PLACES;
                case PLATE: return canBeOfPlate(i);
                case STOOD:
                case LAY: return i == 0 ? value < MOST_PLATES : value <= 30;
                case RUNS: return value <= MOST_RUNS;
                default: return value < MOST_PLATES;
            }
        }

        private boolean canBeOfPlate(int i) {
            switch (i) {
                case 0: return numbers[0] < PLACES;
                case 1: return numbers[1] >= 1 && numbers[1] <= MOST_LIFE;
                default: return numbers[2] >= 1 && numbers[2] <= MOST_LIFE && numbers[2] <= numbers[1];
            }
        }

        private void tell(int head) {
            switch (head) {
                case SPEED: stage.speed = numbers[0];
                    break;
                case START: stage.start = numbers[0];
                    break;
                case PLATE: stage.add(numbers[0], numbers[1], numbers[2]);
                    break;
                case RUNS: log.runs = numbers[0];
                    break;
                case STOOD: log.add(1, numbers[0], numbers[1]);
                    break;
                case LAY: log.add(0, numbers[0], numbers[1]);
                    break;
                case FIRST_DEED + WAIT: show.add(WAIT, NONE);
                    break;
                default: show.add(head - FIRST_DEED, numbers[0]);
                    break;
            }
        }
    }

    /** LEFT of all plates packed into one number, three bits each; 0: it lies. */
    private static final class Beats {
        static int leftOf(int lefts, int plate) {
            return lefts >> 3 * plate & 7;
        }

        static int with(int lefts, int plate, int left) {
            return lefts & ~(7 << 3 * plate) | left << 3 * plate;
        }

        static int passed(int lefts, int beats) {
            int result = 0;
            for (int k = 0; k < MOST_PLATES; k++) {
                result |= Math.max(0, leftOf(lefts, k) - beats) << 3 * k;
            }
            return result;
        }

        static int standing(int lefts) {
            int up = 0;
            for (int k = 0; k < MOST_PLATES; k++) {
                if (leftOf(lefts, k) > 0) {
                    up++;
                }
            }
            return up;
        }

        static int soonest(Stage stage, int lefts) {
            int least = MOST_LIFE;
            for (int k = 0; k < stage.plates; k++) {
                least = Math.min(least, leftOf(lefts, k));
            }
            return least;
        }

        static int behindRun(Stage stage, int at, int lefts, int plate) {
            int way = stage.way(at, stage.place[plate]);
            int rest = passed(lefts, way + 1);
            return leftOf(lefts, plate) > way ? with(rest, plate, stage.life[plate]) : rest;
        }

        static boolean isKept(Stage stage, int at, int lefts, int plate) {
            int way = stage.way(at, stage.place[plate]);
            for (int k = 0; k < stage.plates; k++) {
                // The plate run to is safe in the last beat, the others are not.
                if (leftOf(lefts, k) <= (k == plate ? way : way + 1)) {
                    return false;
                }
            }
            return true;
        }

        /** Behind its first round it is alike in each, so 99 runs tell of all that follow. */
        static int inRow(Stage stage) {
            if (stage.plates == 0) {
                return 0;
            }
            int at = stage.start;
            int lefts = stage.packed();
            for (int made = 0; made < MOST_IN_ROW; made++) {
                int plate = made % stage.plates;
                if (!isKept(stage, at, lefts, plate)) {
                    return made;
                }
                lefts = behindRun(stage, at, lefts, plate);
                at = stage.place[plate];
            }
            return MOST_IN_ROW;
        }
    }

    /** Plays deeds beat by beat and counts what comes of them. */
    private static final class Player {
        private final Stage now = new Stage();
        private final int[] spunBy = new int[MOST_PLATES];
        private int at = 0;
        private int beats = 0;
        private int fell = 0;
        private int spun = 0;
        private int quiet = 0;
        private int seed = 0;
        int firstFell = NONE;
        int vain = 0;
        int longest = 0;
        int ways = 0;
        int most = 0;

        /** How many of the first deeds, up to a limit, could be made. */
        int play(Stage stage, Show show, int limit) {
            begin(stage);
            int made = 0;
            for (; made < limit && show.has(made); made++) {
                if (!may(show.kind[made], show.plate[made])) {
                    return made;
                }
                perform(show.kind[made], show.plate[made]);
                if (fell > 0 && firstFell == NONE) {
                    firstFell = made;
                }
            }
            return made;
        }

        void playDrawn(Stage stage, int firstSeed, int times) {
            begin(stage);
            seed = firstSeed;
            for (int i = 0; i < times; i++) {
                int kind = kindDrawn(draw(10));
                int plate = NONE;
                if (kind != WAIT && now.plates > 0) {
                    plate = draw(now.plates);
                }
                if (may(kind, plate)) {
                    perform(kind, plate);
                }
            }
        }

        private int draw(int below) {
            seed = seed * 1103515245 + 12345;
            return (seed >>> 16) % Math.max(1, below);
        }

        private static int kindDrawn(int number) {
            switch (number) {
                case 5: return SET;
                case 6: return GUST;
                case 7: return OIL;
                case 8:
                case 9: return WAIT;
                default: return RUN;
            }
        }

        private void begin(Stage stage) {
            now.copyFrom(stage);
            at = stage.start;
            beats = 0;
            fell = 0;
            spun = 0;
            quiet = 0;
            firstFell = NONE;
            vain = 0;
            longest = 0;
            ways = 0;
            most = 0;
            for (int k = 0; k < spunBy.length; k++) {
                spunBy[k] = 0;
            }
        }

        private boolean may(int kind, int plate) {
            if (kind == WAIT) {
                return beats + 1 <= MOST_BEATS;
            }
            if (!now.has(plate)) {
                return false;
            }
            boolean stands = now.left[plate] > 0;
            int behind = beats + now.way(at, now.place[plate]) + 1;
            switch (kind) {
                case RUN: return stands && behind <= MOST_BEATS;
                case SET: return !stands && behind <= MOST_BEATS;
                case GUST: return stands;
                case OIL: return now.life[plate] < MOST_LIFE;
                default: return false;
            }
        }

        private void perform(int kind, int plate) {
            if (kind == WAIT) {
                passBeat(NONE);
            } else if (now.has(plate)) {
                switch (kind) {
                    case RUN: runTo(plate);
                        break;
                    case SET: setUp(plate);
                        break;
                    case GUST: blowAt(plate);
                        break;
                    default: now.life[plate]++;
                        break;
                }
            }
        }

        private void runTo(int plate) {
            passWay(plate);
            if (now.left[plate] > 0) {
                passBeat(plate);
                now.left[plate] = now.life[plate];
                spun++;
                spunBy[plate]++;
            } else {
                passBeat(NONE);
                vain++;
            }
        }

        private void setUp(int plate) {
            passWay(plate);
            passBeat(NONE);
            now.left[plate] = now.life[plate];
        }

        private void blowAt(int plate) {
            now.left[plate]--;
            if (now.left[plate] == 0) {
                fell++;
            }
        }

        private void passWay(int plate) {
            int way = now.way(at, now.place[plate]);
            for (int i = 0; i < way; i++) {
                passBeat(NONE);
            }
            ways += way;
            at = now.place[plate];
        }

        /** The plate that is being spun in this beat can't fall in it. */
        private void passBeat(int spinning) {
            int falls = 0;
            for (int k = 0; k < now.plates; k++) {
                if (k != spinning && now.left[k] > 0) {
                    now.left[k]--;
                    if (now.left[k] == 0) {
                        falls++;
                    }
                }
            }
            beats++;
            fell += falls;
            most = Math.max(most, falls);
            quiet = falls == 0 ? quiet + 1 : 0;
            longest = Math.max(longest, quiet);
        }

        int view(int what) {
            switch (what) {
                case 0: return beats;
                case 1: return at;
                case 2: return standingBits();
                case 3: return fell;
                case 4: return spun;
                default: break;
            }
            if (now.has(what - 10)) {
                return now.left[what - 10];
            }
            return now.has(what - 20) ? now.life[what - 20] : NONE;
        }

        private int standingBits() {
            int bits = 0;
            for (int k = 0; k < now.plates; k++) {
                if (now.left[k] > 0) {
                    bits |= 1 << k;
                }
            }
            return bits;
        }

        int mostSpun() {
            int best = NONE;
            for (int k = 0; k < now.plates; k++) {
                if (spunBy[k] > (best == NONE ? 0 : spunBy[best])) {
                    best = k;
                }
            }
            return best;
        }
    }

    /** All stands that kept rows lead to, which of them go on for ever, and how long the others last. */
    private static final class Keeper {
        // At most one plate is spun in a beat and none lives longer than 6: by counting, there are at most 2146.
        private static final int MOST_STANDS = 2200;
        private static final int SLOTS = 4096;
        private static final int MOST_STEPS = 1000000;

        private static final int UNSEEN = 0;
        private static final int OPEN = 1;
        private static final int ENDS = 2;
        private static final int FOREVER = 3;

        private final Stage stage = new Stage();
        private boolean whole = false;
        private int stands = 0;
        private int depth = 0;
        private int ahead = 0;
        private int round = 0;
        private int roundBeats = 0;
        private final short[] inSlot = new short[SLOTS];
        private final byte[] whereOf = new byte[MOST_STANDS];
        private final short[] leftsOf = new short[MOST_STANDS];
        private final byte[] mark = new byte[MOST_STANDS];
        private final byte[] tried = new byte[MOST_STANDS];
        private final short[] lasts = new short[MOST_STANDS];
        private final short[] open = new short[MOST_STANDS];
        private final short[] follower = new short[MOST_STANDS * MOST_PLATES];
        private final short[] stepOf = new short[MOST_STANDS];
        private final short[] beatsOf = new short[MOST_STANDS];

        void exploreAll(Stage asked) {
            if (!whole || !stage.isLike(asked)) {
                explore(asked, true);
            }
        }

        /**
         * Whether a stage is FOREVER. Depth first; a run back to an open stand closes a round that can
         * be run for ever, which is enough to know if not all stands are asked for.
         */
        boolean explore(Stage asked, boolean all) {
            forget();
            stage.copyFrom(asked);
            whole = all;
            depth = 0;
            enter(numberFor(MOST_PLATES, stage.packed()));
            for (int step = 0; step < MOST_STEPS && depth > 0; step++) {
                int at = open[depth - 1];
                int plate = tried[at];
                if (plate >= stage.plates) {
                    finish(at);
                    depth--;
                    continue;
                }
                tried[at]++;
                int to = followerOf(at, plate);
                if (to != NONE && mark[to] == UNSEEN) {
                    enter(to);
                } else if (to != NONE && mark[to] == OPEN && !all) {
                    return true;
                }
            }
            return isForever(0);
        }

        /** The latest first: so none is looked for behind a slot that is free again already. */
        private void forget() {
            for (int i = stands - 1; i >= 0; i--) {
                inSlot[slotOf(whereOf[i], leftsOf[i])] = 0;
            }
            stands = 0;
        }

        /** The slot that a stand has, or the free one that it would take: there are more slots than stands. */
        private int slotOf(int where, int lefts) {
            int slot = (where << 15 | lefts) * 0x9E3779B1 >>> 20;
            for (int i = 0; i < SLOTS; i++) {
                int there = inSlot[slot] - 1;
                if (there < 0 || there >= MOST_STANDS || whereOf[there] == where && leftsOf[there] == lefts) {
                    return slot;
                }
                slot = slot + 1 & SLOTS - 1;
            }
            return slot;
        }

        private int numberFor(int where, int lefts) {
            int slot = slotOf(where, lefts);
            if (inSlot[slot] == 0 && stands < MOST_STANDS) {
                whereOf[stands] = (byte) where;
                leftsOf[stands] = (short) lefts;
                mark[stands] = UNSEEN;
                stands++;
                inSlot[slot] = (short) stands;
            }
            return inSlot[slot] - 1;
        }

        private void enter(int at) {
            if (at < 0 || at >= MOST_STANDS || depth >= MOST_STANDS) {
                return;
            }
            open[depth] = (short) at;
            depth++;
            mark[at] = OPEN;
            tried[at] = 0;
            int from = placeOf(at);
            for (int plate = 0; plate < stage.plates; plate++) {
                int to = NONE;
                if (Beats.isKept(stage, from, leftsOf[at], plate)) {
                    to = numberFor(plate, Beats.behindRun(stage, from, leftsOf[at], plate));
                }
                follower[at * MOST_PLATES + plate] = (short) to;
            }
        }

        private int placeOf(int at) {
            int where = whereOf[at];
            return stage.has(where) ? stage.place[where] : stage.start;
        }

        private int followerOf(int at, int plate) {
            int i = at * MOST_PLATES + plate;
            return stage.has(plate) && i >= 0 && i < follower.length ? follower[i] : NONE;
        }

        private int beatsTo(int at, int plate) {
            return stage.way(placeOf(at), stage.place[plate]) + 1;
        }

        /** All that follow are known by now, or open, which is a round. */
        private void finish(int at) {
            boolean forever = stage.plates == 0;
            int best = Beats.soonest(stage, leftsOf[at]);
            for (int plate = 0; plate < stage.plates; plate++) {
                int to = followerOf(at, plate);
                if (to != NONE) {
                    forever |= mark[to] != ENDS;
                    best = Math.max(best, beatsTo(at, plate) + lasts[to]);
                }
            }
            mark[at] = (byte) (forever ? FOREVER : ENDS);
            lasts[at] = (short) (forever ? 0 : best);
        }

        boolean isForever(int at) {
            return at >= 0 && at < stands && mark[at] == FOREVER;
        }

        int lastsFrom(int at) {
            return at < 0 || at >= stands || mark[at] == FOREVER ? NONE : lasts[at];
        }

        int behindFirst(int plate) {
            return followerOf(0, plate);
        }

        int reached() {
            return stands;
        }

        int safe() {
            int many = 0;
            for (int i = 0; i < stands; i++) {
                if (mark[i] == FOREVER) {
                    many++;
                }
            }
            return many;
        }

        int answer(int what) {
            boolean forever = isForever(0);
            switch (what) {
                case 0: return forever ? 1 : 0;
                case 1: return lastsFrom(0);
                case 5: return forever ? NONE : rowLength();
                default: break;
            }
            if (!forever || stage.plates == 0) {
                return NONE;
            }
            findRound();
            return what == 2 ? ahead : what == 3 ? round : roundBeats;
        }

        /** The plate of ROW's next run from a stand, or NONE if ROW ends there. */
        private int nextRun(int at) {
            boolean forever = mark[at] == FOREVER;
            if (!forever && Beats.soonest(stage, leftsOf[at]) == lasts[at]) {
                return NONE;
            }
            for (int plate = 0; plate < stage.plates; plate++) {
                int to = followerOf(at, plate);
                if (to == NONE) {
                    continue;
                }
                if (forever ? mark[to] == FOREVER : beatsTo(at, plate) + lasts[to] == lasts[at]) {
                    return plate;
                }
            }
            return NONE;
        }

        int rowPlate(int k) {
            int at = 0;
            for (int made = 0; made <= k; made++) {
                int plate = nextRun(at);
                if (plate == NONE || made == k) {
                    return plate;
                }
                at = followerOf(at, plate);
            }
            return NONE;
        }

        private int rowLength() {
            int at = 0;
            for (int made = 0; made < MOST_STANDS; made++) {
                int plate = nextRun(at);
                if (plate == NONE) {
                    return made;
                }
                at = followerOf(at, plate);
            }
            return MOST_STANDS;
        }

        private void findRound() {
            for (int i = 0; i < stands; i++) {
                stepOf[i] = NONE;
            }
            int at = 0;
            int beats = 0;
            for (int made = 0; made <= MOST_STANDS; made++) {
                int plate = nextRun(at);
                if (stepOf[at] != NONE || plate == NONE) {
                    ahead = stepOf[at];
                    round = made - ahead;
                    roundBeats = beats - beatsOf[at];
                    return;
                }
                stepOf[at] = (short) made;
                beatsOf[at] = (short) beats;
                beats += beatsTo(at, plate);
                at = followerOf(at, plate);
            }
        }
    }

    /** Stages unlike the one told: which of them can be kept up for ever. */
    private static final class Trials {
        final Keeper keeper = new Keeper();
        private final Stage trial = new Stage();

        private boolean areKept(Stage stage, int bits) {
            trial.copySome(stage, bits);
            return keeper.explore(trial, false);
        }

        int leastSpeed(Stage stage) {
            trial.copyFrom(stage);
            for (int speed = 1; speed <= MOST_SPEED; speed++) {
                trial.speed = speed;
                if (keeper.explore(trial, false)) {
                    return speed;
                }
            }
            return NONE;
        }

        int startPlaces(Stage stage) {
            trial.copyFrom(stage);
            int bits = 0;
            for (int from = 0; from < PLACES; from++) {
                trial.start = from;
                if (keeper.explore(trial, false)) {
                    bits |= 1 << from;
                }
            }
            return bits;
        }

        int mostKept(Stage stage) {
            for (int many = stage.plates; many > 0; many--) {
                for (int bits = 1; bits < 1 << stage.plates; bits++) {
                    if (Integer.bitCount(bits) == many && areKept(stage, bits)) {
                        return bits;
                    }
                }
            }
            return 0;
        }

        int sparePlates(Stage stage) {
            int all = (1 << stage.plates) - 1;
            int spare = 0;
            for (int plate = 0; plate < stage.plates; plate++) {
                if (areKept(stage, all & ~(1 << plate))) {
                    spare |= 1 << plate;
                }
            }
            return spare;
        }

        int leastLife(Stage stage, int plate) {
            if (!stage.has(plate)) {
                return NONE;
            }
            trial.copyFrom(stage);
            for (int life = 1; life <= MOST_LIFE; life++) {
                trial.life[plate] = life;
                trial.left[plate] = Math.min(stage.left[plate], life);
                if (keeper.explore(trial, false)) {
                    return life;
                }
            }
            return NONE;
        }

        int movePlaces(Stage stage, int plate) {
            if (!stage.has(plate)) {
                return 0;
            }
            trial.copyFrom(stage);
            int bits = 0;
            for (int to = 0; to < PLACES; to++) {
                trial.place[plate] = to;
                if (keeper.explore(trial, false)) {
                    bits |= 1 << to;
                }
            }
            return bits;
        }

        int alonePlates(Stage stage) {
            int alone = 0;
            for (int plate = 0; plate < stage.plates; plate++) {
                if (areKept(stage, 1 << plate)) {
                    alone |= 1 << plate;
                }
            }
            return alone;
        }

        int couplesAlone(Stage stage) {
            int couples = 0;
            for (int i = 0; i < stage.plates; i++) {
                for (int j = i + 1; j < stage.plates; j++) {
                    if (areKept(stage, 1 << i | 1 << j)) {
                        couples++;
                    }
                }
            }
            return couples;
        }

        int bestSwap(Stage stage) {
            if (keeper.explore(stage, false)) {
                return NONE;
            }
            for (int i = 0; i < stage.plates; i++) {
                for (int j = i + 1; j < stage.plates; j++) {
                    trial.copyFrom(stage);
                    trial.place[i] = stage.place[j];
                    trial.place[j] = stage.place[i];
                    if (stage.place[i] != stage.place[j] && keeper.explore(trial, false)) {
                        return 10 * i + j;
                    }
                }
            }
            return NONE;
        }
    }

    /** SAVE and DUEL. A best choice is value times 8, and more for the lesser choice, so the greatest number is best. */
    private static final class Games {
        private static final int WAITS = 5;

        static int valueOf(int best) {
            return best / 8;
        }

        static int choiceOf(int best) {
            return WAITS - best % 8;
        }

        private static int rated(int value, int choice) {
            return value * 8 + WAITS - choice;
        }

        static int saving(Stage stage, int n) {
            return bestSaving(stage, stage.start, stage.packed(), Math.min(n, MOST_SAVE));
        }

        /** The turns of both are counted: of three, the rival has one. */
        static int duelling(Stage stage, int turns) {
            return bestAgainst(stage, stage.start, stage.packed(), Math.min(turns, MOST_DUEL));
        }

        private static int bestSaving(Stage stage, int at, int lefts, int n) {
            int most = Beats.standing(lefts);
            if (n <= 0 || most == 0) {
                return rated(most, WAITS);
            }
            int best = NONE;
            // A plate that lies stays so: as many as stand now can't be outdone.
            for (int plate = 0; plate < stage.plates && valueOf(best) < most; plate++) {
                int beats = stage.way(at, stage.place[plate]) + 1;
                if (Beats.leftOf(lefts, plate) > 0 && beats <= n) {
                    int rest = Beats.behindRun(stage, at, lefts, plate);
                    int value = valueOf(bestSaving(stage, stage.place[plate], rest, n - beats));
                    best = Math.max(best, rated(value, plate));
                }
            }
            if (valueOf(best) < most) {
                int value = valueOf(bestSaving(stage, at, Beats.passed(lefts, 1), n - 1));
                best = Math.max(best, rated(value, WAITS));
            }
            return best;
        }

        private static int bestAgainst(Stage stage, int at, int lefts, int turns) {
            if (turns <= 0) {
                return rated(Beats.standing(lefts), WAITS);
            }
            int best = rated(worstOf(stage, at, Beats.passed(lefts, 1), turns - 1), WAITS);
            for (int plate = 0; plate < stage.plates; plate++) {
                if (Beats.leftOf(lefts, plate) > 0) {
                    int rest = Beats.behindRun(stage, at, lefts, plate);
                    int value = worstOf(stage, stage.place[plate], rest, turns - 1);
                    best = Math.max(best, rated(value, plate));
                }
            }
            return best;
        }

        private static int worstOf(Stage stage, int at, int lefts, int turns) {
            if (turns <= 0) {
                return Beats.standing(lefts);
            }
            int worst = valueOf(bestAgainst(stage, at, lefts, turns - 1));
            for (int plate = 0; plate < stage.plates; plate++) {
                int left = Beats.leftOf(lefts, plate);
                if (left > 0) {
                    int blown = Beats.with(lefts, plate, left - 1);
                    worst = Math.min(worst, valueOf(bestAgainst(stage, at, blown, turns - 1)));
                }
            }
            return worst;
        }
    }

    /** All rows of runs that fit a log, taken together. */
    private static final class Rows {
        private static final int ASKED_BEATS = 21;

        int fitting = 0;
        int asked = NO_SUCH;
        int fewestBeats = NONE;
        int mostBeats = NONE;
        int mostUp = NONE;
        private final int[] row = new int[MOST_RUNS];
        private final int[] sure = new int[MOST_RUNS];
        private final int[] fallsAt = new int[MOST_PLATES];
        private final int[] stood = new int[ASKED_BEATS * MOST_PLATES];
        private int runs = 0;
        private int beats = 0;

        void tally(Stage stage, Log log, int k) {
            clear();
            runs = Math.min(log.runs, MOST_RUNS);
            int all = power(stage.plates, runs);
            for (int code = 0; code < all; code++) {
                spell(code, stage.plates);
                if (makeRuns(stage) && isTrue(stage, log)) {
                    if (fitting == k) {
                        asked = numberOfRow();
                    }
                    takeIn(stage);
                }
            }
        }

        private void clear() {
            fitting = 0;
            asked = NO_SUCH;
            fewestBeats = NONE;
            mostBeats = NONE;
            mostUp = NONE;
            for (int i = 0; i < stood.length; i++) {
                stood[i] = 0;
            }
        }

        private void spell(int code, int plates) {
            int rest = code;
            int base = Math.max(1, plates);
            for (int i = runs - 1; i >= 0; i--) {
                row[i] = rest % base;
                rest /= base;
            }
        }

        /** Nothing is set up anew, so when a plate falls says all of when it stands. */
        private boolean makeRuns(Stage stage) {
            for (int k = 0; k < stage.plates; k++) {
                fallsAt[k] = stage.left[k];
            }
            beats = 0;
            int at = stage.start;
            for (int i = 0; i < runs; i++) {
                int plate = row[i];
                if (!stage.has(plate) || fallsAt[plate] <= beats) {
                    return false;
                }
                int way = stage.way(at, stage.place[plate]);
                if (fallsAt[plate] > beats + way) {
                    fallsAt[plate] = beats + way + 1 + stage.life[plate];
                }
                beats += way + 1;
                at = stage.place[plate];
            }
            return true;
        }

        private boolean isTrue(Stage stage, Log log) {
            for (int k = 0; k < log.facts; k++) {
                int plate = log.plate[k];
                if (!stage.has(plate)) {
                    return false;
                }
                boolean stands = fallsAt[plate] > log.beats[k];
                if (stands != (log.stood[k] == 1)) {
                    return false;
                }
            }
            return true;
        }

        private int numberOfRow() {
            int number = 1;
            for (int i = 0; i < runs; i++) {
                number = number * 10 + row[i];
            }
            return number;
        }

        private void takeIn(Stage stage) {
            int up = 0;
            for (int plate = 0; plate < stage.plates; plate++) {
                if (fallsAt[plate] > beats) {
                    up++;
                }
                for (int t = 0; t < ASKED_BEATS && t < fallsAt[plate]; t++) {
                    stood[t * MOST_PLATES + plate]++;
                }
            }
            for (int i = 0; i < runs; i++) {
                sure[i] = fitting == 0 || sure[i] == row[i] ? row[i] : NONE;
            }
            fewestBeats = fitting == 0 ? beats : Math.min(fewestBeats, beats);
            mostBeats = Math.max(mostBeats, beats);
            mostUp = Math.max(mostUp, up);
            fitting++;
        }

        int sureRun(int i) {
            return fitting > 0 && i >= 0 && i < runs && i < sure.length ? sure[i] : NONE;
        }

        int bestQuestion(int plates) {
            int best = NONE;
            int least = fitting + 1;
            for (int t = 0; t < ASKED_BEATS && fitting > 0; t++) {
                for (int plate = 0; plate < plates; plate++) {
                    int up = stood[t * MOST_PLATES + plate];
                    int greater = Math.max(up, fitting - up);
                    if (greater < least) {
                        least = greater;
                        best = 10 * t + plate;
                    }
                }
            }
            return best;
        }
    }
}
