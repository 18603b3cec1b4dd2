import java.util.List;

/** What the tests share: texts put on a tape, and answers held against those that are due. */
final class Check {
    private int asked = 0;
    private int wrong = 0;
    private String about = "";

    /** What the next answers are about, told with each that is wrong. */
    void about(String what) {
        about = what;
    }

    void due(String call, long got, long want) {
        asked++;
        if (got != want) {
            wrong++;
            if (wrong <= 40) {
                System.out.println(about + ": " + brief(call) + " answered " + got + ", due is " + want);
            }
        }
    }

    /** A long text with its middle left out, so that a wrong answer can be read. */
    private static String brief(String call) {
        int size = call.length();
        return size <= 400 ? call : call.substring(0, 200) + " .. " + (size - 400) + " more .. " + call.substring(size - 200);
    }

    void due(String call, boolean got, boolean want) {
        due(call, got ? 1 : 0, want ? 1 : 0);
    }

    int asked() {
        return asked;
    }

    int wrong() {
        return wrong;
    }

    void end() {
        System.out.println(asked + " answers asked, " + wrong + " not as due");
        if (wrong != 0 || asked == 0) {
            System.exit(1);
        }
    }

    /** Puts a text behind the tape, by feeds of twenty bytes and one back. */
    static void put(SeaHair hair, String text) {
        int size = (text.length() + 19) / 20 * 20;
        for (int at = 0; at < size; at += 20) {
            hair.feed(four(text, at), four(text, at + 4), four(text, at + 8), four(text, at + 12), four(text, at + 16));
        }
        hair.back(size - text.length());
    }

    static int four(String text, int at) {
        int word = 0;
        for (int i = at; i < at + 4; i++) {
            word = word << 8 | (i < text.length() ? text.charAt(i) & 255 : 32);
        }
        return word;
    }

    /** A new object that has read the text, which is to have no FAULT. */
    SeaHair read(String text) {
        SeaHair hair = new SeaHair();
        put(hair, text);
        due("read() of " + text, hair.read(), 0);
        return hair;
    }

    /** A text's FAULT and its place, read by a new object. */
    void fault(String text, int number, int place) {
        SeaHair hair = new SeaHair();
        put(hair, text);
        due("read() of " + text, hair.read(), number);
        due("place() of " + text, hair.place(), place);
    }

    /** Two objects are alike in all that they answer; both are used up by it. */
    void same(String call, SeaHair one, SeaHair other) {
        List<String> left = Seen.of(one);
        List<String> right = Seen.of(other);
        due(call + ": as many answers", left.size(), right.size());
        for (int i = 0; i < Math.min(left.size(), right.size()); i++) {
            due(call + ": " + left.get(i) + ", but " + right.get(i), left.get(i).equals(right.get(i)), true);
        }
    }

    /** Where one is who begins at 0 .. 9 and swims between 0 and 9, turning at both: unfolded, a ring of 18. */
    static int swum(int from, int step, int months) {
        int ring = Math.floorMod(from + step * months, 18);
        return ring <= 9 ? ring : 18 - ring;
    }

    /** LOT 100 of a SEED and a which. */
    static int lot(int seed, int which) {
        int h = (seed ^ 135) * 1103515245 + 12345;
        h ^= h >>> 15;
        h = (h ^ which) * 1103515245 + 12345;
        h ^= h >>> 15;
        return (h >>> 1) % 100;
    }
}
