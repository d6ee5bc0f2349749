import java.util.ArrayList;
import java.util.List;
import java.util.Random;

/**
 * Whole lives of objects, 512 calls each, of all sorts mixed: two stages, shows and logs, texts refused and taken in
 * place, images and what they bring back. What is told is held here as plain texts, which are read anew at each call.
 */
public final class WalkTest {
    private static final Due DUE = new Due();
    private static final int NONE = PlateRunner.NONE;
    private static final int LIVES = 300;
    private static final int CALLS = 512;

    /** All that is told. */
    private static final class Known {
        String tape = "";
        int fault = 0, place = NONE;
        final List<List<String>> texts = List.of(new ArrayList<>(), new ArrayList<>(), new ArrayList<>());

        Known copy() {
            Known k = new Known();
            k.tape = tape;
            k.fault = fault;
            k.place = place;
            for (int sort = 0; sort < 3; sort++) k.texts.get(sort).addAll(texts.get(sort));
            return k;
        }

        boolean has(int sort, int at) {
            return at >= 0 && at < texts.get(sort).size();
        }

        int text(int sort, int at) {
            String taken = tape;
            tape = "";
            fault = 0;
            place = NONE;
            boolean may = sort >= 0 && sort < 3 && (at == NONE ? texts.get(sort).size() < 2 : has(sort, at));
            if (!may) return -2;
            int[] found = Reading.fault(sort, taken);
            fault = found[0];
            place = found[1];
            if (fault != 0) return NONE;
            if (at == NONE) {
                texts.get(sort).add(taken);
                return texts.get(sort).size() - 1;
            }
            texts.get(sort).set(at, taken);
            return at;
        }
    }

    private final Random r;
    private final PlateRunner x = new PlateRunner();
    private final Known[] images = new Known[3];
    private final String name;
    private Known known = new Known();
    private int calls = 0;
    private String given = "";

    private WalkTest(int seed) {
        r = new Random(seed);
        name = "life " + seed;
    }

    public static void main(String[] args) {
        int lives = args.length > 0 ? Integer.parseInt(args[0]) : LIVES;
        int[] asked = new int[20];
        for (int seed = 0; seed < lives && !DUE.anyWrong(); seed++) new WalkTest(seed).live(asked);
        for (int i = 0; i < asked.length; i++) DUE.is("calls of each sort are made: " + i, asked[i] > 0, true);
        DUE.finish();
    }

    private void live(int[] asked) {
        while (calls < CALLS && !DUE.anyWrong()) {
            int sort = r.nextInt(asked.length);
            asked[sort]++;
            if (sort < 2 || known.texts.get(0).isEmpty()) tell();
            else if (sort == 2) image();
            else if (sort == 3) again();
            else if (sort == 4) tape();
            else if (sort < 9) told(sort);
            else ask(sort);
        }
    }

    private void is(String call, int got, int want) {
        calls++;
        // What later calls answer is free.
        if (calls <= CALLS) DUE.is(name + ", call " + calls + ", " + call, got, want);
    }

    /** A number of a text: mostly one that there is. */
    private int any() {
        return r.nextInt(12) == 0 ? r.nextInt(5) - 2 : r.nextInt(2);
    }

    private int upTo(int most) {
        return r.nextInt(most + 3) - 1;
    }

    // ---- the tape

    private void feed(int a, int b, int c, int d, int e) {
        int want = NONE;
        if (known.tape.length() <= 580) {
            StringBuilder tape = new StringBuilder(known.tape);
            for (int four : new int[] {a, b, c, d, e})
                for (int i = 3; i >= 0; i--) tape.append((char) (four >> 8 * i & 255));
            known.tape = tape.toString();
            want = known.tape.length();
        }
        is("feed", x.feed(a, b, c, d, e), want);
    }

    private void end(int n) {
        boolean may = n >= 0 && n <= known.tape.length();
        if (may) known.tape = known.tape.substring(0, n);
        is("end " + n, x.end(n), may ? n : NONE);
    }

    private void feedText(String text) {
        int before = known.tape.length();
        if (before + text.length() + 20 > 600) return;
        String padded = text + " ".repeat(20);
        for (int i = 0; i < text.length(); i += 20) {
            int[] n = new int[5];
            for (int j = 0; j < 20; j++) n[j / 4] = n[j / 4] << 8 | padded.charAt(i + j);
            feed(n[0], n[1], n[2], n[3], n[4]);
        }
        end(before + text.length());
    }

    private void tape() {
        switch (r.nextInt(4)) {
            case 0: end(r.nextInt(known.tape.length() + 3) - 1);
                break;
            case 1: feedText(RandomText.text(r, r.nextInt(3)));
                break;
            case 2: feed(r.nextInt(), r.nextInt(), 0x20202020, r.nextInt(), 0x3b0a3b20);
                break;
            default: end(0);
                break;
        }
    }

    private void tell() {
        int sort = r.nextInt(40) == 0 ? r.nextInt(6) - 2 : r.nextInt(3);
        if (!known.tape.isEmpty() && r.nextInt(8) != 0) end(0);
        int like = Math.floorMod(sort, 3);
        feedText(like == 0 && r.nextInt(3) != 0 ? stageText() : RandomText.text(r, like));
        int at = r.nextInt(3) == 0 ? NONE : any();
        is("text " + sort + " " + at, x.text(sort, at), known.text(sort, at));
    }

    private String stageText() {
        List<String> there = known.texts.get(0);
        return there.isEmpty() || r.nextInt(3) == 0 ? goodStage() : nearStage(there.get(r.nextInt(there.size())));
    }

    /** One that is unlike another in one number: nothing that was found out of that one may be taken for it. */
    private String nearStage(String text) {
        Model.Scene s = Reading.scene(text);
        int plates = s.plates.size();
        Model.Plate p = plates == 0 ? new Model.Plate(0, 6, 6) : s.plates.get(r.nextInt(plates));
        switch (r.nextInt(6)) {
            case 0: s.speed = 1 + r.nextInt(9);
                break;
            case 1: s.start = r.nextInt(10);
                break;
            case 2: p.place = r.nextInt(10);
                break;
            case 3: p.life = Math.min(6, p.life + 1);
                break;
            case 4: p.left = 1 + r.nextInt(p.life);
                break;
            default: if (plates > 0) s.plates.remove(plates - 1);
                break;
        }
        return s.told();
    }

    /** One of a kind of which a fair part is for ever. */
    private String goodStage() {
        StringBuilder b = new StringBuilder("speed " + (2 + r.nextInt(8)) + ";start " + r.nextInt(10) + ";");
        int plates = r.nextInt(6), width = 1 + r.nextInt(6);
        for (int i = 0; i < plates; i++) {
            int life = 3 + r.nextInt(4);
            b.append("plate " + r.nextInt(width) + " " + life + " " + Math.max(1, life - r.nextInt(3)) + ";");
        }
        return b.toString();
    }

    private void image() {
        int k = upTo(2);
        boolean may = k >= 0 && k < 3;
        if (may) images[k] = known.copy();
        is("image " + k, x.image(k) ? 1 : 0, may ? 1 : 0);
    }

    private void again() {
        int k = upTo(2);
        boolean may = k >= 0 && k < 3 && images[k] != null;
        if (may) known = images[k].copy();
        is("again " + k, x.again(k) ? 1 : 0, may ? 1 : 0);
    }

    // ---- what is told

    private void told(int sort) {
        int at = any(), what = r.nextInt(4) == 0 ? upTo(2) : 10 * (1 + r.nextInt(3)) + r.nextInt(9);
        if (sort == 5) {
            int k = upTo(3);
            is("count " + k, x.count(k), k < 0 || k > 2 ? -2 : known.texts.get(k).size());
            k = upTo(1);
            is("fault " + k, x.fault(k), k == 0 ? known.fault : k == 1 ? known.place : NONE);
        } else if (sort == 6) {
            is("stage " + at + " " + what, x.stage(at, what), stageWant(at, what));
        } else if (sort == 7) {
            int k = upTo(40), part = upTo(1);
            is("deed " + at + " " + k + " " + part, x.deed(at, k, part), deedWant(at, k, part));
        } else {
            is("log " + at + " " + what, x.log(at, what), logWant(at, what));
        }
    }

    private int stageWant(int at, int what) {
        if (!known.has(0, at)) return NONE;
        Model.Scene s = Reading.scene(known.texts.get(0).get(at));
        if (what == 0) return s.speed;
        if (what == 1) return s.start;
        if (what == 2) return s.plates.size();
        if (what < 10 || what % 10 >= s.plates.size()) return NONE;
        Model.Plate p = s.plates.get(what % 10);
        return what < 20 ? p.place : what < 30 ? p.life : p.left;
    }

    private int deedWant(int at, int k, int part) {
        if (!known.has(1, at)) return -2;
        List<int[]> deeds = Reading.deeds(known.texts.get(1).get(at));
        if (k == NONE && part == 0) return deeds.size();
        return k < 0 || k >= deeds.size() || part < 0 || part > 1 ? -2 : deeds.get(k)[part];
    }

    private int logWant(int at, int what) {
        if (!known.has(2, at)) return NONE;
        Model.Told log = Reading.log(known.texts.get(2).get(at));
        if (what == 0) return log.runs;
        if (what == 1) return log.facts.size();
        if (what < 10 || what % 10 >= log.facts.size()) return NONE;
        return log.facts.get(what % 10)[what / 10 - 1];
    }

    // ---- what follows from it

    private void ask(int sort) {
        int at = any(), other = any();
        Model.Scene s = known.has(0, at) ? Reading.scene(known.texts.get(0).get(at)) : null;
        List<int[]> deeds = known.has(1, other) ? Reading.deeds(known.texts.get(1).get(other)) : null;
        Model.Told log = known.has(2, other) ? Reading.log(known.texts.get(2).get(other)) : null;
        given = known.texts + ", " + at + " " + other;
        switch (sort) {
            case 9:
            case 10: askKeep();
                break;
            case 11: askNeed(at, s);
                break;
            case 12: askBehind(at, s);
                break;
            case 13: askGames(at, s);
                break;
            case 14: askOdds(at, s);
                break;
            case 15: askLoad(at, s);
                break;
            case 16: askDrawn(at, s);
                break;
            case 17: askShow(at, s, other, deeds);
                break;
            case 18: askAfter(at, s, other, deeds);
                break;
            default: askLog(at, s, other, log);
                break;
        }
    }

    /** Of both stages, one at once behind the other: they may be near to each other. */
    private void askKeep() {
        int what = r.nextBoolean() ? upTo(6) : 10 + r.nextInt(12);
        for (int at = 0; at < 2; at++) {
            Model.Scene s = known.has(0, at) ? Reading.scene(known.texts.get(0).get(at)) : null;
            is("keep " + at + " " + what + " " + given, x.keep(at, what), s == null ? -2 : Model.keep(s, what));
        }
    }

    private void askNeed(int at, Model.Scene s) {
        int what = r.nextBoolean() ? upTo(7) : 10 * (1 + r.nextInt(2)) + r.nextInt(6);
        is("need " + what + " " + given, x.need(at, what), s == null ? -2 : Model.need(s, what));
    }

    private void askBehind(int at, Model.Scene s) {
        int plate = upTo(4), what = upTo(2);
        is("behind " + plate + " " + what + " " + given, x.behind(at, plate, what), s == null ? -2 : Model.behind(s, plate, what));
    }

    private void askGames(int at, Model.Scene s) {
        boolean first = r.nextBoolean();
        int part = first ? 1 : 0, n = r.nextInt(10) == 0 ? 5 + r.nextInt(3) : upTo(3), turns = upTo(3);
        boolean may = s != null && n >= 0 && n <= 6;
        is("save " + n + " " + first + " " + given, x.save(at, n, first), may ? Model.save(s, s.start, s.lefts(), n)[part] : -9);
        may = s != null && turns >= 0 && turns <= 3;
        is("duel " + turns + " " + first + " " + given, x.duel(at, turns, first),
            may ? Model.duel(s, s.start, s.lefts(), turns, true)[part] : -9);
    }

    private void askOdds(int at, Model.Scene s) {
        int plate = upTo(3), p = upTo(10), n = upTo(6);
        boolean may = s != null && plate >= 0 && plate < s.plates.size() && p >= 0 && p <= 10 && n >= 0 && n <= 6;
        boolean under = r.nextBoolean();
        long want = may ? Model.odds(s.plates.get(plate).left, p, n)[under ? 1 : 0] : NONE;
        is("odds " + plate + " " + p + " " + n + " " + given, x.odds(at, plate, p, n, under), (int) want);
    }

    private void askLoad(int at, Model.Scene s) {
        int what = r.nextInt(3) == 0 ? 20 + r.nextInt(7) : upTo(14);
        is("load " + what + " " + given, x.load(at, what), s == null ? -2 : Model.load(s, what));
    }

    private int stateWhat() {
        return r.nextBoolean() ? upTo(5) : 10 * (1 + r.nextInt(2)) + r.nextInt(6);
    }

    private void askDrawn(int at, Model.Scene s) {
        int seed = r.nextInt(), n = upTo(60), what = stateWhat();
        boolean may = s != null && n >= 0 && n <= 60;
        is("drawn " + seed + " " + n + " " + what + " " + given, x.drawn(at, seed, n, what),
            may ? Model.drawn(s, seed, n).view(what) : NONE);
    }

    private void askShow(int at, Model.Scene s, int other, List<int[]> deeds) {
        int stop = s == null || deeds == null ? NONE : Model.play(s, deeds, 40).made;
        is("stop " + given, x.stop(at, other), stop);
        int n = upTo(Math.max(0, stop)), what = stateWhat();
        boolean may = n >= 0 && n <= stop;
        is("state " + n + " " + what + " " + given, x.state(at, other, n, what), may ? Model.play(s, deeds, n).view(what) : NONE);
    }

    private void askAfter(int at, Model.Scene s, int other, List<int[]> deeds) {
        int what = upTo(5);
        int want = s == null || deeds == null ? -2 : Model.play(s, deeds, 40).after(what);
        is("after " + what + " " + given, x.after(at, other, what), want);
    }

    private void askLog(int at, Model.Scene s, int other, Model.Told log) {
        int what = r.nextBoolean() ? upTo(9) : 10 + r.nextInt(30), part = upTo(2);
        List<Model.Fit> fits = s == null || log == null ? null : Model.fits(s, log);
        is("fits " + what + " " + given, x.fits(at, other, what), fits == null ? -2 : Model.fitAnswer(s, log, fits, what));
        is("least " + part + " " + given, x.least(at, other, part), fits == null ? NONE : Model.least(fits, part));
    }
}
