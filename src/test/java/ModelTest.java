import java.util.ArrayList;
import java.util.List;
import java.util.Random;

/** Random stages, shows and logs, each answer against the slow model's. */
public final class ModelTest {
    private static final Due DUE = new Due();
    private static final int ROUNDS = 700;

    public static void main(String[] args) {
        Random r = new Random(20261118);
        int kept = 0, mostReached = 0;
        int rounds = args.length > 0 ? Integer.parseInt(args[0]) : ROUNDS;
        for (int i = 0; i < rounds && !DUE.anyWrong(); i++) {
            PlateRunner x = new PlateRunner();
            Model.Scene s = scene(r);
            DUE.is(s.told(), Tape.tell(x, 0, -1, s.told()), 0);
            keeps(x, s);
            games(x, s, r);
            loads(x, s);
            for (int j = 0; j < 4; j++) {
                shows(x, s, r, j);
                logs(x, s, r, j);
            }
            draws(x, s, r);
            kept += x.keep(0, 0);
            mostReached = Math.max(mostReached, x.need(0, 5));
        }
        mostReached = Math.max(mostReached, heavy(r));
        System.out.println(kept + " of " + rounds + " stages are for ever, most stands " + mostReached);
        DUE.finish();
    }

    /** The stages with the most stands that there are: five plates at one place. */
    private static int heavy(Random r) {
        int most = 0;
        int[][] lives = {{6, 6, 6, 6, 6}, {6, 5, 6, 5, 6}, {5, 5, 5, 5, 5}, {4, 6, 5, 6, 5}, {6, 6, 6, 6, 6}};
        for (int[] life : lives) {
            PlateRunner x = new PlateRunner();
            Model.Scene s = new Model.Scene();
            for (int v : life) s.plates.add(new Model.Plate(0, v, most == 0 ? v : v - r.nextInt(2)));
            DUE.is(s.told(), Tape.tell(x, 0, -1, s.told()), 0);
            keeps(x, s);
            games(x, s, r);
            most = Math.max(most, x.need(0, 5));
        }
        return most;
    }

    private static Model.Scene scene(Random r) {
        Model.Scene s = new Model.Scene();
        s.speed = 1 + r.nextInt(9);
        s.start = r.nextInt(10);
        int n = r.nextInt(6);
        int width = 1 + r.nextInt(10);
        int strong = r.nextInt(3);
        for (int i = 0; i < n; i++) {
            int life = strong == 0 ? 1 + r.nextInt(6) : strong == 1 ? 3 + r.nextInt(4) : 5 + r.nextInt(2);
            int left = strong == 0 ? 1 + r.nextInt(life) : Math.max(1, life - r.nextInt(3));
            s.plates.add(new Model.Plate(Math.min(9, r.nextInt(width) + (r.nextBoolean() ? 0 : 10 - width)), life, left));
        }
        return s;
    }

    private static void keeps(PlateRunner x, Model.Scene s) {
        String t = s.told();
        for (int what = -1; what <= 25; what++) DUE.is(t + " keep " + what, x.keep(0, what), Model.keep(s, what));
        for (int what = 105; what <= 111; what++) DUE.is(t + " keep " + what, x.keep(0, what), Model.keep(s, what));
        for (int what = -1; what <= 27; what++) DUE.is(t + " need " + what, x.need(0, what), Model.need(s, what));
        for (int p = -1; p <= 5; p++) for (int what = -1; what <= 3; what++)
            DUE.is(t + " behind " + p + " " + what, x.behind(0, p, what), Model.behind(s, p, what));
    }

    private static void games(PlateRunner x, Model.Scene s, Random r) {
        String t = s.told();
        int most = r.nextInt(20) == 0 ? 6 : 4;
        for (int n = 0; n <= most; n++) {
            int[] want = Model.save(s, s.start, s.lefts(), n);
            DUE.is(t + " save " + n, x.save(0, n, false), want[0]);
            DUE.is(t + " save first " + n, x.save(0, n, true), want[1]);
        }
        for (int n = 0; n <= 3; n++) {
            int[] want = Model.duel(s, s.start, s.lefts(), n, true);
            DUE.is(t + " duel " + n, x.duel(0, n, false), want[0]);
            DUE.is(t + " duel first " + n, x.duel(0, n, true), want[1]);
        }
        for (int i = 0; i < 10; i++) {
            int p = r.nextInt(11), n = r.nextInt(7), k = r.nextInt(6);
            boolean there = k < s.plates.size();
            long[] want = there ? Model.odds(s.plates.get(k).left, p, n) : new long[] {-1, -1};
            DUE.is(t + " odds " + k + " " + p + " " + n, x.odds(0, k, p, n, false), want[0]);
            DUE.is(t + " odds under " + k + " " + p + " " + n, x.odds(0, k, p, n, true), want[1]);
        }
    }

    private static void loads(PlateRunner x, Model.Scene s) {
        for (int what = -1; what <= 27; what++) DUE.is(s.told() + " load " + what, x.load(0, what), Model.load(s, what));
    }

    private static final String[] KINDS = {"wait", "run", "set", "gust", "oil"};

    private static void shows(PlateRunner x, Model.Scene s, Random r, int round) {
        List<int[]> deeds = new ArrayList<>();
        StringBuilder text = new StringBuilder();
        int many = r.nextInt(41);
        for (int i = 0; i < many; i++) {
            int kind = r.nextInt(5), p = r.nextInt(5);
            // Most deeds should be such as can be, or shows would stop at once.
            for (int j = 0; j < 20 && r.nextInt(60) != 0; j++) {
                Model.Act trial = Model.play(s, deeds, 40);
                if (trial.act(kind, kind == 0 ? -1 : p)) break;
                kind = r.nextInt(5);
                p = r.nextInt(5);
            }
            deeds.add(new int[] {kind, kind == 0 ? -1 : p});
            text.append(KINDS[kind]).append(kind == 0 ? "" : " " + p).append(';');
        }
        String t = s.told() + " / " + text;
        DUE.is(t, Tape.tell(x, 1, round == 0 ? -1 : 0, text.toString()), 0);
        DUE.is(t, x.deed(0, -1, 0), many);
        for (int i = 0; i < many; i++) for (int what = 0; what < 2; what++) DUE.is(t, x.deed(0, i, what), deeds.get(i)[what]);
        int stop = Model.play(s, deeds, 40).made;
        DUE.is(t + " stop", x.stop(0, 0), stop);
        for (int n = -1; n <= many + 1; n++) for (int what = -1; what < 26; what++) {
            int want = n < 0 || n > stop ? -1 : Model.play(s, deeds, n).view(what);
            DUE.is(t + " state " + n + " " + what, x.state(0, 0, n, what), want);
        }
        for (int what = -1; what <= 6; what++) DUE.is(t + " after " + what, x.after(0, 0, what), Model.play(s, deeds, 40).after(what));
    }

    private static void logs(PlateRunner x, Model.Scene s, Random r, int round) {
        Model.Told log = new Model.Told();
        log.runs = r.nextInt(5);
        List<Model.Fit> any = Model.fits(s, log);
        StringBuilder text = new StringBuilder("runs " + log.runs + ";");
        int facts = r.nextInt(4);
        Model.Fit truth = any.isEmpty() ? null : any.get(r.nextInt(any.size()));
        for (int i = 0; i < facts; i++) {
            int p = r.nextInt(r.nextInt(8) == 0 ? 5 : Math.max(1, s.plates.size())), beats = r.nextInt(r.nextBoolean() ? 31 : 10);
            boolean stood = truth != null && p < s.plates.size() && r.nextInt(10) != 0 ? truth.stands[beats][p] : r.nextBoolean();
            log.facts.add(new int[] {stood ? 1 : 0, p, beats});
            text.append(stood ? "stood " : "lay ").append(p).append(' ').append(beats).append(';');
        }
        String t = s.told() + " / " + text;
        DUE.is(t, Tape.tell(x, 2, round == 0 ? -1 : 0, text.toString()), 0);
        DUE.is(t, x.log(0, 0), log.runs);
        DUE.is(t, x.log(0, 1), facts);
        for (int k = 0; k < 8; k++) for (int part = 0; part < 3; part++)
            DUE.is(t + " log", x.log(0, 10 + 10 * part + k), k < facts ? log.facts.get(k)[part] : -1);
        List<Model.Fit> fits = Model.fits(s, log);
        for (int what = -1; what < 12 + Math.min(20, fits.size()); what++)
            DUE.is(t + " fits " + what, x.fits(0, 0, what), Model.fitAnswer(s, log, fits, what));
        for (int k = Math.max(0, fits.size() - 2); k <= fits.size() + 1; k++)
            DUE.is(t + " fits " + (10 + k), x.fits(0, 0, 10 + k), Model.fitAnswer(s, log, fits, 10 + k));
        for (int what = -1; what <= 3; what++) DUE.is(t + " least " + what, x.least(0, 0, what), Model.least(fits, what));
    }

    private static void draws(PlateRunner x, Model.Scene s, Random r) {
        for (int i = 0; i < 4; i++) {
            int seed = r.nextBoolean() ? r.nextInt(100) : r.nextInt(), n = r.nextInt(61);
            for (int what = -1; what < 26; what++)
                DUE.is(s.told() + " drawn " + seed + " " + n + " " + what, x.drawn(0, seed, n, what), Model.drawn(s, seed, n).view(what));
        }
    }
}
