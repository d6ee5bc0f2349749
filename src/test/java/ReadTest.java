import java.util.ArrayList;
import java.util.List;
import java.util.Random;
import java.util.regex.Matcher;
import java.util.regex.Pattern;

/** Promises 2 to 7, 16 and Term 1: random texts, read once more by regular expressions. */
public final class ReadTest {
    private static final Due DUE = new Due();
    private static final Pattern TOKENS = Pattern.compile("([ \n]+)|([a-z]+)|([0-9]+)|(;)|(.)", Pattern.DOTALL);
    private static final Pattern[] TEXTS = {
        Pattern.compile("([ab]N;|cNNN;)*"), Pattern.compile("(d;|[efgh]N;)*"), Pattern.compile("(iN;|[jk]NN;)*")};
    private static final List<String> WORDS = List.of("speed", "start", "plate", "wait", "run", "set", "gust", "oil", "runs", "stood", "lay");
    private static final int[][] FROM = {{0, 2}, {3, 7}, {8, 10}};

    private record Token(int place, char kind, int value) { }

    private static List<Token> tokens(String text) {
        List<Token> all = new ArrayList<>();
        Matcher m = TOKENS.matcher(text);
        while (m.find()) {
            if (m.group(1) != null) continue;
            char kind = 'X';
            int value = 0;
            if (m.group(2) != null && WORDS.contains(m.group())) kind = (char) ('a' + WORDS.indexOf(m.group()));
            if (m.group(3) != null && m.group().length() <= 2) { kind = 'N'; value = Integer.parseInt(m.group()); }
            if (m.group(4) != null) kind = ';';
            all.add(new Token(m.start(), kind, value));
        }
        return all;
    }

    private static boolean goesOn(int sort, String kinds) {
        Matcher m = TEXTS[sort].matcher(kinds);
        return m.matches() || m.hitEnd();
    }

    /** {fault, place} */
    private static int[] fault(int sort, String text) {
        List<Token> all = tokens(text);
        StringBuilder kinds = new StringBuilder();
        for (Token t : all) {
            kinds.append(t.kind);
            if (!goesOn(sort, kinds.toString())) return new int[] {1, t.place};
        }
        if (!TEXTS[sort].matcher(kinds).matches()) return new int[] {1, text.length()};
        int further = 0;
        for (int i = 0; i < all.size(); i++) {
            char head = all.get(i).kind;
            if (head == ';' || head == 'N') continue;
            if (head != 'a' && head != 'b' && head != 'i') further++;
            if (further > (sort == 0 ? 5 : sort == 1 ? 40 : 8)) return new int[] {3, all.get(i).place};
            for (int j = 1; i + j < all.size() && all.get(i + j).kind == 'N'; j++) {
                int v = all.get(i + j).value;
                int low = head == 'a' || head == 'c' && j > 1 ? 1 : 0;
                int high = head <= 'b' || head == 'c' && j == 1 ? 9 : head == 'c' ? 6 : j == 2 ? 30 : 4;
                boolean above = head == 'c' && j == 3 && v > all.get(i + 2).value;
                if (v < low || v > high || above) return new int[] {2, all.get(i + j).place};
            }
        }
        return new int[] {0, -1};
    }

    private static String number(Random r, int low, int high) {
        int v = r.nextInt(40) == 0 ? r.nextInt(120) : low + r.nextInt(high - low + 1);
        return (r.nextInt(10) == 0 && v < 10 ? "0" : "") + v;
    }

    private static String blanks(Random r, boolean must) {
        StringBuilder b = new StringBuilder();
        while (must || r.nextInt(4) == 0) { b.append(r.nextInt(3) == 0 ? '\n' : ' '); must = false; }
        return b.toString();
    }

    private static String line(Random r, int sort) {
        int head = FROM[sort][0] + r.nextInt(FROM[sort][1] - FROM[sort][0] + 1);
        StringBuilder b = new StringBuilder(blanks(r, false) + WORDS.get(head) + blanks(r, r.nextInt(8) != 0));
        int life = 1 + r.nextInt(6);
        if (head == 0) b.append(number(r, 1, 9));
        if (head == 1) b.append(number(r, 0, 9));
        if (head == 2) b.append(number(r, 0, 9)).append(blanks(r, true)).append(life).append(blanks(r, true)).append(number(r, 1, life));
        if (head >= 4 && head <= 8) b.append(number(r, 0, 4));
        if (head > 8) b.append(number(r, 0, 4)).append(blanks(r, true)).append(number(r, 0, 30));
        return b.append(blanks(r, false)).append(';').toString();
    }

    private static String text(Random r, int sort) {
        StringBuilder b = new StringBuilder();
        int lines = r.nextInt(sort == 1 && r.nextInt(4) == 0 ? 60 : 8 + 4 * sort);
        for (int i = 0; i < lines && b.length() < 570; i++) b.append(line(r, sort));
        while (r.nextInt(3) == 0 && b.length() > 0) {
            int at = r.nextInt(b.length());
            if (r.nextBoolean()) b.deleteCharAt(at);
            else b.setCharAt(at, r.nextBoolean() ? (char) r.nextInt(256) : " ;a19r\n".charAt(r.nextInt(7)));
        }
        b.append(blanks(r, false));
        b.setLength(Math.min(600, b.length()));
        return b.toString();
    }

    public static void main(String[] args) {
        Random r = new Random(7);
        int[] seen = new int[4];
        for (int i = 0; i < 40000 && !DUE.anyWrong(); i++) {
            int sort = r.nextInt(3);
            String text = text(r, sort);
            int[] want = fault(sort, text);
            seen[want[0]]++;
            PlateRunner x = new PlateRunner();
            String t = sort + ": " + text;
            DUE.is(t, Tape.tell(x, sort, -1, text), want[0] == 0 ? 0 : -1);
            DUE.is(t + " fault", x.fault(0), want[0]);
            DUE.is(t + " place", x.fault(1), want[1]);
            DUE.is(t + " count", x.count(sort), want[0] == 0 ? 1 : 0);
            DUE.is(t + " tape", x.end(1), -1);
            if (want[0] == 0) told(x, sort, text, t);
        }
        System.out.println("faults 0 to 3: " + seen[0] + " " + seen[1] + " " + seen[2] + " " + seen[3]);
        DUE.finish();
    }

    private static void told(PlateRunner x, int sort, String text, String t) {
        int[] last = {2, 0, 1};
        int further = 0;
        List<Token> all = tokens(text);
        for (int i = 0; i < all.size(); i++) {
            char head = all.get(i).kind;
            if (head == ';' || head == 'N') continue;
            int[] v = new int[3];
            for (int j = 0; j < 3 && i + 1 + j < all.size(); j++) v[j] = all.get(i + 1 + j).value;
            if (head == 'a') last[0] = v[0];
            if (head == 'b') last[1] = v[0];
            if (head == 'i') last[2] = v[0];
            if (head == 'c') for (int j = 0; j < 3; j++) DUE.is(t + " plate", x.stage(0, 10 * (j + 1) + further), v[j]);
            if (sort == 1) DUE.is(t + " deed", x.deed(0, further, 0), head - 'd');
            if (sort == 1) DUE.is(t + " deed", x.deed(0, further, 1), head == 'd' ? -1 : v[0]);
            if (head == 'j' || head == 'k') {
                DUE.is(t + " stood", x.log(0, 10 + further), head == 'j' ? 1 : 0);
                DUE.is(t + " fact", x.log(0, 20 + further), v[0]);
                DUE.is(t + " fact", x.log(0, 30 + further), v[1]);
            }
            if (head != 'a' && head != 'b' && head != 'i') further++;
        }
        if (sort == 0) {
            DUE.is(t + " speed", x.stage(0, 0), last[0]);
            DUE.is(t + " start", x.stage(0, 1), last[1]);
            DUE.is(t + " plates", x.stage(0, 2), further);
            DUE.is(t + " no more", x.stage(0, 10 + further), -1);
        } else if (sort == 1) {
            DUE.is(t + " deeds", x.deed(0, -1, 0), further);
        } else {
            DUE.is(t + " runs", x.log(0, 0), last[2]);
            DUE.is(t + " facts", x.log(0, 1), further);
        }
    }
}
