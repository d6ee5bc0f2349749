import java.nio.file.Files;
import java.nio.file.Path;
import java.util.List;
import java.util.regex.Matcher;
import java.util.regex.Pattern;

/** README.md's example: its calls are made as they stand there, and answer what it says behind them. */
public final class ReadmeTest {
    private static final Due DUE = new Due();
    private static final Pattern FEED = Pattern.compile("x\\.feed\\((.*)\\); // \"(.*)\"");
    private static final Pattern END = Pattern.compile("x\\.end\\((\\d+)\\);");
    private static final Pattern ASKED = Pattern.compile("int (\\w+) = x\\.(.*); +// (-?\\d+):.*");

    public static void main(String[] args) throws Exception {
        String page = Files.readString(Path.of("README.md"));
        int from = page.indexOf("```java\n"), to = page.indexOf("```\n", from + 8);
        PlateRunner x = new PlateRunner();
        String text = "";
        int read = 0;
        for (String line : page.substring(from + 8, to).lines().toList()) {
            Matcher feed = FEED.matcher(line), end = END.matcher(line), asked = ASKED.matcher(line);
            read++;
            if (feed.matches()) {
                text += feed(x, line, feed.group(1), feed.group(2));
            } else if (end.matches()) {
                DUE.is(line, x.end(text.length()), Integer.parseInt(end.group(1)));
                text = "";
            } else if (asked.matches()) {
                DUE.is(line, answer(x, asked.group(2)), Integer.parseInt(asked.group(3)));
            } else {
                DUE.is(line, List.of("", "PlateRunner x = new PlateRunner();").contains(line), true);
            }
        }
        DUE.is("lines", read >= 12, true);
        DUE.finish();
    }

    private static String feed(PlateRunner x, String line, String numbers, String words) {
        String[] parts = numbers.split(", ");
        int[] n = new int[5];
        StringBuilder told = new StringBuilder();
        for (int i = 0; i < 5; i++) {
            n[i] = Integer.decode(parts[i]);
            for (int shift = 24; shift >= 0; shift -= 8) told.append((char) (n[i] >> shift & 255));
        }
        x.feed(n[0], n[1], n[2], n[3], n[4]);
        DUE.is(line, told.toString().equals(words + " ".repeat(20 - words.length())), true);
        return words;
    }

    private static int answer(PlateRunner x, String call) {
        switch (call) {
            case "text(0, PlateRunner.NONE)": return x.text(0, PlateRunner.NONE);
            case "text(1, PlateRunner.NONE)": return x.text(1, PlateRunner.NONE);
            case "keep(stage, 0)": return x.keep(0, 0);
            case "stop(stage, show)": return x.stop(0, 0);
            case "state(stage, show, 2, 2)": return x.state(0, 0, 2, 2);
            default: throw new IllegalStateException("README.md has a call that this test does not know: " + call);
        }
    }
}
