import java.util.Random;

/** Random texts of each sort, some of them spoilt. */
final class RandomText {
    private static final int[][] FROM = {{0, 2}, {3, 7}, {8, 10}};

    private static String number(Random r, int low, int high) {
        int v = r.nextInt(40) == 0 ? r.nextInt(120) : low + r.nextInt(high - low + 1);
        return (r.nextInt(10) == 0 && v < 10 ? "0" : "") + v;
    }

    private static String blanks(Random r, boolean must) {
        StringBuilder b = new StringBuilder();
        while (must || r.nextInt(4) == 0) { b.append(r.nextInt(3) == 0 ? '\n' : ' '); must = false; }
        return b.toString();
    }

    private static String line(Random r, int sort) {
        int head = FROM[sort][0] + r.nextInt(FROM[sort][1] - FROM[sort][0] + 1);
        StringBuilder b = new StringBuilder(blanks(r, false) + Reading.WORDS.get(head) + blanks(r, r.nextInt(8) != 0));
        int life = 1 + r.nextInt(6);
        if (head == 0) b.append(number(r, 1, 9));
        if (head == 1) b.append(number(r, 0, 9));
        if (head == 2) b.append(number(r, 0, 9)).append(blanks(r, true)).append(life).append(blanks(r, true)).append(number(r, 1, life));
        if (head >= 4 && head <= 8) b.append(number(r, 0, 4));
        if (head > 8) b.append(number(r, 0, 4)).append(blanks(r, true)).append(number(r, 0, 30));
        return b.append(blanks(r, false)).append(';').toString();
    }

    static String text(Random r, int sort) {
        StringBuilder b = new StringBuilder();
        int lines = r.nextInt(sort == 1 && r.nextInt(4) == 0 ? 60 : 8 + 4 * sort);
        for (int i = 0; i < lines && b.length() < 570; i++) b.append(line(r, sort));
        while (r.nextInt(3) == 0 && b.length() > 0) {
            int at = r.nextInt(b.length());
            if (r.nextBoolean()) b.deleteCharAt(at);
            else b.setCharAt(at, r.nextBoolean() ? (char) r.nextInt(256) : " ;a19r\n".charAt(r.nextInt(7)));
        }
        b.append(blanks(r, false));
        b.setLength(Math.min(600, b.length()));
        return b.toString();
    }
}
