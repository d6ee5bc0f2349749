/** Brings a text onto an object's tape, twenty bytes a call, and has it read. */
final class Tape {
    static void lay(PlateRunner x, String text) {
        int length = x.end(0);
        for (int i = 0; i < text.length(); i += 20) {
            x.feed(four(text, i), four(text, i + 4), four(text, i + 8), four(text, i + 12), four(text, i + 16));
            length = i + 20;
        }
        x.end(Math.min(length, text.length()));
    }

    static int tell(PlateRunner x, int sort, int at, String text) {
        lay(x, text);
        return x.text(sort, at);
    }

    private static int four(String text, int from) {
        int number = 0;
        for (int i = from; i < from + 4; i++) {
            number = number << 8 | (i < text.length() ? text.charAt(i) & 255 : 32);
        }
        return number;
    }
}
