import java.util.ArrayList;
import java.util.List;
import java.util.regex.Matcher;
import java.util.regex.Pattern;

/** Term 1 once more, by regular expressions: a text's FAULT, and what it tells. */
final class Reading {
    private static final Pattern TOKENS = Pattern.compile("([ \n]+)|([a-z]+)|([0-9]+)|(;)|(.)", Pattern.DOTALL);
    private static final Pattern[] TEXTS = {
        Pattern.compile("([ab]N;|cNNN;)*"), Pattern.compile("(d;|[efgh]N;)*"), Pattern.compile("(iN;|[jk]NN;)*")};
    static final List<String> WORDS = List.of("speed", "start", "plate", "wait", "run", "set", "gust", "oil", "runs", "stood", "lay");

    record Token(int place, char kind, int value) { }

    static List<Token> tokens(String text) {
        List<Token> all = new ArrayList<>();
        Matcher m = TOKENS.matcher(text);
        while (m.find()) {
            if (m.group(1) != null) continue;
            char kind = 'X';
            int value = 0;
            if (m.group(2) != null && WORDS.contains(m.group())) kind = (char) ('a' + WORDS.indexOf(m.group()));
            if (m.group(3) != null && m.group().length() <= 2) { kind = 'N'; value = Integer.parseInt(m.group()); }
            if (m.group(4) != null) kind = ';';
            all.add(new Token(m.start(), kind, value));
        }
        return all;
    }

    private static boolean goesOn(int sort, String kinds) {
        Matcher m = TEXTS[sort].matcher(kinds);
        return m.matches() || m.hitEnd();
    }

    /** {fault, place} */
    static int[] fault(int sort, String text) {
        List<Token> all = tokens(text);
        StringBuilder kinds = new StringBuilder();
        for (Token t : all) {
            kinds.append(t.kind);
            if (!goesOn(sort, kinds.toString())) return new int[] {1, t.place};
        }
        if (!TEXTS[sort].matcher(kinds).matches()) return new int[] {1, text.length()};
        int further = 0;
        for (int i = 0; i < all.size(); i++) {
            char head = all.get(i).kind;
            if (head == ';' || head == 'N') continue;
            if (head != 'a' && head != 'b' && head != 'i') further++;
            if (further > (sort == 0 ? 5 : sort == 1 ? 40 : 8)) return new int[] {3, all.get(i).place};
            for (int j = 1; i + j < all.size() && all.get(i + j).kind == 'N'; j++) {
                int v = all.get(i + j).value;
                int low = head == 'a' || head == 'c' && j > 1 ? 1 : 0;
                int high = head <= 'b' || head == 'c' && j == 1 ? 9 : head == 'c' ? 6 : j == 2 ? 30 : 4;
                boolean above = head == 'c' && j == 3 && v > all.get(i + 2).value;
                if (v < low || v > high || above) return new int[] {2, all.get(i + j).place};
            }
        }
        return new int[] {0, -1};
    }

    /** {word, its numbers}, line by line, of a text without FAULT. */
    static List<int[]> lines(String text) {
        List<int[]> all = new ArrayList<>();
        List<Token> line = new ArrayList<>();
        for (Token t : tokens(text)) {
            if (t.kind != ';') {
                line.add(t);
                continue;
            }
            int[] one = new int[line.size()];
            for (int i = 0; i < one.length; i++) one[i] = i == 0 ? line.get(0).kind - 'a' : line.get(i).value;
            all.add(one);
            line.clear();
        }
        return all;
    }

    static Model.Scene scene(String text) {
        Model.Scene s = new Model.Scene();
        for (int[] line : lines(text)) {
            if (line[0] == 0) s.speed = line[1];
            if (line[0] == 1) s.start = line[1];
            if (line[0] == 2) s.plates.add(new Model.Plate(line[1], line[2], line[3]));
        }
        return s;
    }

    /** {kind, plate} of each deed. */
    static List<int[]> deeds(String text) {
        List<int[]> all = new ArrayList<>();
        for (int[] line : lines(text)) all.add(new int[] {line[0] - 3, line.length > 1 ? line[1] : -1});
        return all;
    }

    static Model.Told log(String text) {
        Model.Told log = new Model.Told();
        for (int[] line : lines(text)) {
            if (line[0] == 8) log.runs = line[1];
            else log.facts.add(new int[] {line[0] == 9 ? 1 : 0, line[1], line[2]});
        }
        return log;
    }
}
