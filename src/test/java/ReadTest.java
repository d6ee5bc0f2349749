import java.util.List;
import java.util.Random;

/** Promises 2 to 7, 16 and Term 1: random texts, read once more by regular expressions. */
public final class ReadTest {
    private static final Due DUE = new Due();

    public static void main(String[] args) {
        Random r = new Random(7);
        int[] seen = new int[4];
        for (int i = 0; i < 40000 && !DUE.anyWrong(); i++) {
            int sort = r.nextInt(3);
            String text = RandomText.text(r, sort);
            int[] want = Reading.fault(sort, text);
            seen[want[0]]++;
            PlateRunner x = new PlateRunner();
            String t = sort + ": " + text;
            DUE.is(t, Tape.tell(x, sort, -1, text), want[0] == 0 ? 0 : -1);
            DUE.is(t + " fault", x.fault(0), want[0]);
            DUE.is(t + " place", x.fault(1), want[1]);
            DUE.is(t + " count", x.count(sort), want[0] == 0 ? 1 : 0);
            DUE.is(t + " tape", x.end(1), -1);
            if (want[0] == 0) told(x, sort, text, t);
        }
        System.out.println("faults 0 to 3: " + seen[0] + " " + seen[1] + " " + seen[2] + " " + seen[3]);
        DUE.finish();
    }

    private static void told(PlateRunner x, int sort, String text, String t) {
        int[] last = {2, 0, 1};
        int further = 0;
        List<Reading.Token> all = Reading.tokens(text);
        for (int i = 0; i < all.size(); i++) {
            char head = all.get(i).kind();
            if (head == ';' || head == 'N') continue;
            int[] v = new int[3];
            for (int j = 0; j < 3 && i + 1 + j < all.size(); j++) v[j] = all.get(i + 1 + j).value();
            if (head == 'a') last[0] = v[0];
            if (head == 'b') last[1] = v[0];
            if (head == 'i') last[2] = v[0];
            if (head == 'c') for (int j = 0; j < 3; j++) DUE.is(t + " plate", x.stage(0, 10 * (j + 1) + further), v[j]);
            if (sort == 1) DUE.is(t + " deed", x.deed(0, further, 0), head - 'd');
            if (sort == 1) DUE.is(t + " deed", x.deed(0, further, 1), head == 'd' ? -1 : v[0]);
            if (head == 'j' || head == 'k') {
                DUE.is(t + " stood", x.log(0, 10 + further), head == 'j' ? 1 : 0);
                DUE.is(t + " fact", x.log(0, 20 + further), v[0]);
                DUE.is(t + " fact", x.log(0, 30 + further), v[1]);
            }
            if (head != 'a' && head != 'b' && head != 'i') further++;
        }
        if (sort == 0) {
            DUE.is(t + " speed", x.stage(0, 0), last[0]);
            DUE.is(t + " start", x.stage(0, 1), last[1]);
            DUE.is(t + " plates", x.stage(0, 2), further);
            DUE.is(t + " no more", x.stage(0, 10 + further), -1);
        } else if (sort == 1) {
            DUE.is(t + " deeds", x.deed(0, -1, 0), further);
        } else {
            DUE.is(t + " runs", x.log(0, 0), last[2]);
            DUE.is(t + " facts", x.log(0, 1), further);
        }
    }
}
