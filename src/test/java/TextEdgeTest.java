import java.util.List;

/**
 * The boundary cases of the document's Terms, part I, and of promises 1 to 5: of a tape, a text, its
 * TOKENS and its numbers, the last that is still allowed and the first that is not.
 */
final class TextEdgeTest {
    private static final Check CHECK = new Check();
    private static final String[] WORDS = {"mermaid", "person", "strand", "pull", "stands", "price", "storm", "pier", "seed",
        "if", "then", "else", "length", "far", "moon", "month", "weight", "across", "down", "which", "wears"};
    private static final String[] LAWS = {"pull", "stands", "price", "storm"};
    private static final String BOTH = "mermaid m 1 1 1 1;person p 1 1 1;";

    public static void main(String[] args) {
        newObject();
        feedUpTo2000();
        backToNothing();
        readEmptiesTheTape();
        placeOfTheEnd();
        textOf2000();
        everyByte();
        blanks();
        names();
        wordsAreNoNames();
        longestThatCanBe();
        ints();
        numbers();
        numbersAreAsTold();
        room();
        ifs();
        brackets();
        numbered();
        notTold();
        inPlaceOfTheOneAhead();
        CHECK.end();
    }

    private static void newObject() {
        CHECK.about("promise 1: No MERMAIDS, no PEOPLE");
        SeaHair hair = new SeaHair();
        for (int what = -1; what <= 9; what++) {
            CHECK.due("mermaid(0, " + what + ")", hair.mermaid(0, what), -100);
            CHECK.due("person(0, " + what + ")", hair.person(0, what), -100000);
            CHECK.due("strand(0, " + what + ")", hair.strand(0, what), -1);
        }
        for (int what = 0; what <= 13; what++) {
            CHECK.due("count(" + what + ")", hair.count(what), 0);
        }
        CHECK.due("first(0)", hair.first(0), -2);
        CHECK.due("first(1)", hair.first(1), -2);
        CHECK.due("cutBest()", hair.cutBest(), -2);
        CHECK.due("market(0)", hair.market(0), 0);
        int[] refused = {hair.then(0, 0, 0), hair.swims(0, 0, 0), hair.near(0, 0, 0), hair.plait(0, 0, 0, 0), hair.turns(0, 0),
            hair.strongest(0, 0), hair.again(0), hair.passing(0, 1, 0), hair.even(0), hair.nothing(0, 0), hair.safe(0, 0),
            hair.worth(0), hair.give(0), hair.year(0, 0, 1)};
        for (int i = 0; i < refused.length; i++) {
            CHECK.due("no such ones, call " + i, refused[i], -1);
        }
        CHECK.due("a month goes by all the same", hair.months(60), 60);
    }

    /** A tape of so many bytes, all of them blanks. */
    private static SeaHair tapeOf(int size) {
        SeaHair hair = new SeaHair();
        Check.put(hair, " ".repeat(size));
        CHECK.due("count(8)", hair.count(8), size);
        return hair;
    }

    private static void feedUpTo2000() {
        CHECK.about("promise 2: NONE, and nothing comes, if it would have more than 2,000");
        int bad = 0x3f3f3f3f;
        CHECK.due("the first twenty", tapeOf(0).feed(bad, bad, bad, bad, bad), 20);
        CHECK.due("up to 1,999", tapeOf(1979).feed(bad, bad, bad, bad, bad), 1999);
        CHECK.due("up to 2,000", tapeOf(1980).feed(bad, bad, bad, bad, bad), 2000);
        for (int size = 1981; size <= 2000; size++) {
            SeaHair hair = tapeOf(size);
            CHECK.due("feed behind " + size, hair.feed(bad, bad, bad, bad, bad), -1);
            CHECK.due("count(8)", hair.count(8), size);
            CHECK.due("nothing came", hair.read(), 0);
            CHECK.due("feed behind a read", hair.feed(bad, bad, bad, bad, bad), 20);
        }
        SeaHair hair = tapeOf(2000);
        hair.back(20);
        CHECK.due("once twenty are gone", hair.feed(bad, bad, bad, bad, bad), 2000);
        CHECK.due("they came", hair.read(), 1);
        CHECK.due("behind the others", hair.place(), 1980);

        CHECK.about("promise 2: twenty bytes, the highest of a first");
        for (int at = 0; at < 20; at++) {
            int[] words = {0x20202020, 0x20202020, 0x20202020, 0x20202020, 0x20202020};
            words[at / 4] ^= (0x20 ^ 0xff) << 24 - at % 4 * 8;
            hair = new SeaHair();
            hair.feed(words[0], words[1], words[2], words[3], words[4]);
            CHECK.due("read()", hair.read(), 1);
            CHECK.due("the byte " + at, hair.place(), at);
        }
    }

    private static void backToNothing() {
        CHECK.about("promise 3: NONE, and nothing goes, if it has not so many, or n is below 0");
        for (int size : new int[] {0, 1, 20, 1999, 2000}) {
            SeaHair hair = tapeOf(size);
            for (int n : new int[] {size + 1, size + 2000, Integer.MAX_VALUE, -1, -size - 1, Integer.MIN_VALUE}) {
                CHECK.due("back(" + n + ") of " + size, hair.back(n), -1);
                CHECK.due("count(8)", hair.count(8), size);
            }
            CHECK.due("back(0) of " + size, hair.back(0), size);
            CHECK.due("all of them", hair.back(size), 0);
            CHECK.due("one more", hair.back(1), -1);
        }
        CHECK.about("promise 3: the last n bytes go");
        SeaHair hair = new SeaHair();
        Check.put(hair, "pier 3;??");
        hair.back(1);
        CHECK.due("back(1)", hair.back(1), 7);
        Check.put(hair, "!");
        CHECK.due("read()", hair.read(), 1);
        CHECK.due("what is fed next comes behind", hair.place(), 7);
        String[] texts = {"pier 12", "piera", "pier 1;?", "pier ", "pull=((", "seed 1 2"};
        int[] places = {6, 4, -1, 4, 6, 7};
        for (int i = 0; i < texts.length; i++) {
            hair = new SeaHair();
            Check.put(hair, texts[i]);
            hair.back(1);
            CHECK.due("read() without the last of " + texts[i], hair.read(), places[i] < 0 ? 0 : 1);
            CHECK.due("what went is not read", hair.place(), places[i]);
        }
    }

    private static void readEmptiesTheTape() {
        CHECK.about("promise 4: the tape, which is empty then, is read");
        SeaHair hair = new SeaHair();
        CHECK.due("read() of nothing", hair.read(), 0);
        String[] texts = {"", "pier 3;", "?", "person p 1 1 1;".repeat(7), "person p 1 1 1;person p 1 1 1;", "strand m p 1;",
            "pier 10;", " ".repeat(2000)};
        int[] due = {0, 0, 1, 2, 3, 4, 5, 0};
        for (int i = 0; i < texts.length; i++) {
            hair = new SeaHair();
            Check.put(hair, texts[i]);
            CHECK.due("read() of " + texts[i], hair.read(), due[i]);
            CHECK.due("count(8)", hair.count(8), 0);
            CHECK.due("back(1)", hair.back(1), -1);
            CHECK.due("read() once more", hair.read(), 0);
        }
    }

    private static void placeOfTheEnd() {
        CHECK.about("promise 5: the byte of the latest read()'s FAULT; NONE without");
        SeaHair hair = new SeaHair();
        CHECK.due("before any", hair.place(), -1);
        Check.put(hair, "?");
        CHECK.due("fed, not read", hair.place(), -1);
        hair.read();
        CHECK.due("the first byte", hair.place(), 0);
        Check.put(hair, "pier 3; ?");
        CHECK.due("fed, not read", hair.place(), 0);
        hair.read();
        CHECK.due("the latest", hair.place(), 8);
        hair.read();
        CHECK.due("without", hair.place(), -1);
        CHECK.about("the text's end: its length");
        CHECK.fault("pier", 1, 4);
        CHECK.fault("pier" + " ".repeat(1995), 1, 1999);
        CHECK.fault("pier" + " ".repeat(1996), 1, 2000);
        CHECK.fault(" ".repeat(1999) + "?", 1, 1999);
        CHECK.fault(" ".repeat(1996) + "pier", 1, 2000);
        CHECK.fault(" ".repeat(1994) + "pier 1", 1, 2000);
        CHECK.fault(" ".repeat(1991) + "pier 1234", 1, 2000);
        CHECK.fault(" ".repeat(1994) + "pier -", 1, 1999);
    }

    private static void textOf2000() {
        CHECK.about("a TEXT has 2,000 bytes at most");
        String text = "person p 1 1 1;pier 2;";
        for (int size = 1980; size <= 2000; size++) {
            SeaHair hair = CHECK.read(text + " ".repeat(size - text.length() - 7) + "pier 1;");
            CHECK.due("what the last bytes tell", hair.safe(0, 0), 20);
        }
    }

    private static boolean isBlank(int b) {
        return b == 9 || b == 10 || b == 13 || b == 32;
    }

    /** Each byte by itself, between two TOKENS of a TELL, and between two UNITS of a LAW. */
    private static void everyByte() {
        CHECK.about("blanks (9, 10, 13, 32), letters a .. z, digits, SIGNS; all else is no TOKEN");
        for (int b = 0; b < 256; b++) {
            char sign = (char) b;
            boolean letter = b >= 'a' && b <= 'z';
            boolean digit = b >= '0' && b <= '9';
            CHECK.fault("" + sign, isBlank(b) ? 0 : 1, isBlank(b) ? -1 : 0);
            String between = "pier" + sign + "1;";
            if (isBlank(b) || b == '0') {
                CHECK.fault(between, 0, -1);
            } else if (digit) {
                CHECK.fault(between, 5, 4);
            } else {
                CHECK.fault(between, 1, letter ? 0 : 4);
            }
            String law = "pull=far" + sign + "far;";
            if (b == '+' || b == '-' || b == '*' || b == '/') {
                CHECK.fault(law, 0, -1);
            } else if (isBlank(b) || b == ';') {
                CHECK.fault(law, 1, 9);
            } else {
                CHECK.fault(law, 1, letter ? 5 : 8);
            }
        }
    }

    private static void blanks() {
        CHECK.about("with blanks between or not");
        String[] tokens = {"mermaid", "m", "1", "2", "-", "3", "-", "1", ";", "pull", "=", "if", "(", "1", ")", "<", "2", "then",
            "far", "*", "4", "else", "5", ";"};
        for (String blank : new String[] {" ", "\t", "\n", "\r", " \t\r\n", " ".repeat(40)}) {
            CHECK.fault(String.join(blank, tokens), 0, -1);
            CHECK.fault(blank + String.join(blank, tokens) + blank, 0, -1);
        }
        CHECK.fault("mermaid m1 2-3-1;pull=if(1)<2then far*4else 5;", 0, -1);
        CHECK.fault("person p1 1 1;person q2 2 2;pier3;seed4;", 0, -1);
        CHECK.fault("mermaidm 1 2 3 1;", 1, 0);
        CHECK.fault("mermaid m 12-3-1;", 1, 12);
        CHECK.fault("pi er3;", 1, 0);
        CHECK.fault("pull==1;", 1, 5);
    }

    private static void names() {
        CHECK.about("NAMES: letters a .. z, 8 at most");
        for (String letter : new String[] {"a", "z"}) {
            for (int size = 1; size <= 12; size++) {
                String name = letter.repeat(size);
                boolean is = size <= 8;
                CHECK.fault("mermaid " + name + " 1 1 1 1;", is ? 0 : 1, is ? -1 : 8);
                CHECK.fault("person " + name + " 1 1 1;", is ? 0 : 1, is ? -1 : 7);
                CHECK.fault(BOTH + "strand m " + name + " 1;", is ? 4 : 1, BOTH.length() + 9);
                CHECK.fault(BOTH + "strand " + name + " p 1;", is ? 4 : 1, BOTH.length() + 7);
            }
        }
        CHECK.about("NAMES of 8 letters are apart by each letter");
        for (int at = 0; at < 8; at++) {
            StringBuilder name = new StringBuilder("zzzzzzzz");
            name.setCharAt(at, 'a');
            CHECK.fault("person zzzzzzzz 1 1 1;person " + name + " 1 1 1;", 0, -1);
            CHECK.fault("person " + name + " 1 1 1;person " + name + " 1 1 1;", 3, 29);
            CHECK.fault("person zzzzzzzz 1 1 1;person " + "z".repeat(at) + "a 1 1 1;", 0, -1);
        }
    }

    private static void wordsAreNoNames() {
        CHECK.about("NAMES: none of the words in quotes");
        List<String> all = List.of(WORDS);
        for (String word : WORDS) {
            CHECK.fault("mermaid " + word + " 1 1 1 1;", 1, 8);
            CHECK.fault("person " + word + " 1 1 1;", 1, 7);
            CHECK.fault(BOTH + "strand " + word + " p 1;", 1, BOTH.length() + 7);
            CHECK.fault(BOTH + "strand m " + word + " 1;", 1, BOTH.length() + 9);
            for (String near : new String[] {word + "x", "x" + word, word.substring(1), word.substring(0, word.length() - 1)}) {
                if (!all.contains(near)) {
                    CHECK.fault("mermaid " + near + " 1 1 1 1;", 0, -1);
                    CHECK.fault("person " + near + " 1 1 1;", 0, -1);
                }
            }
            boolean begins = all.indexOf(word) < 9;
            CHECK.fault(word, 1, begins ? word.length() : 0);
            boolean isVar = all.indexOf(word) >= 12;
            CHECK.fault("pull=" + word + ";", isVar ? 0 : 1, isVar ? -1 : word.equals("if") ? 7 : 5);
        }
    }

    private static void longestThatCanBe() {
        CHECK.about("TOKENS, the longest that can be");
        CHECK.fault("pierseed", 1, 0);
        CHECK.fault("person thenelse 1 1 1;", 0, -1);
        CHECK.fault("person ifthenel 1 1 1;", 0, -1);
        CHECK.fault("person ifthenels 1 1 1;", 1, 7);
        CHECK.fault("seed 12 34;", 1, 8);
        CHECK.fault("seed 1234;", 0, -1);
        CHECK.fault("pull=farfar;", 1, 5);
        CHECK.fault("pull=1far;", 1, 6);
        CHECK.fault("pull=far1;", 1, 8);
        CHECK.fault("person p11 1 1;", 5, 8);
    }

    private static void ints() {
        CHECK.about("INTS: 1 to 4 digits; a longer one is no TOKEN");
        String[] told = {"mermaid m # 1 1 1;", "mermaid m 1 # 1 1;", "mermaid m 1 1 # 1;", "mermaid m 1 1 -# 1;", "mermaid m 1 1 1 #;",
            "mermaid m 1 1 1 -#;", "person p # 1 1;", "person p 1 # 1;", "person p 1 1 #;", BOTH + "strand m p #;", "pier #;",
            "seed #;", "pull=#;", "stands=(#);", "price=far*#;", "storm=if # < 1 then 2 else 3;", "pull=if 1 < # then 2 else 3;"};
        for (String text : told) {
            int at = text.indexOf('#');
            for (String right : new String[] {"1", "01", "001", "0001"}) {
                CHECK.fault(text.replace("#", right), 0, -1);
            }
            for (String wrong : new String[] {"00001", "00000", "10000", "99999", "0".repeat(40), "4294967297"}) {
                CHECK.fault(text.replace("#", wrong), 1, at);
            }
        }
    }

    private static void number(String text, int least, int most) {
        int at = text.indexOf('#');
        for (int n = 0; n <= 9999; n += n < 120 || n > 9990 ? 1 : 97) {
            boolean is = n >= least && n <= most;
            CHECK.fault(text.replace("#", "" + n), is ? 0 : 5, is ? -1 : at);
        }
    }

    private static void numbers() {
        CHECK.about("WRONG (at the INT): a number not as told above");
        number("mermaid m # 1 1 1;", 0, 9);
        number("mermaid m 1 # 1 1;", 0, 9);
        number("mermaid m 1 1 # 1;", 0, 3);
        number("mermaid m 1 1 - # 1;", 0, 3);
        number("mermaid m 1 1 1 #;", 0, 3);
        number("mermaid m 1 1 1 - #;", 0, 3);
        number("person p # 1 1;", 0, 9);
        number("person p 1 # 1;", 0, 9);
        number("person p 1 1 #;", 1, 99);
        number(BOTH + "strand m p #;", 1, 9);
        number("pier #;", 0, 9);
        number("seed #;", 0, 9999);
        number("pull=#;", 0, 9999);
        number("storm=if # < # then # else #;", 0, 9999);
        CHECK.about("a number below 0 is told by a STEP alone");
        for (String text : new String[] {"mermaid m -1 1 1 1;", "mermaid m 1 -1 1 1;", "person p -1 1 1;", "person p 1 -1 1;",
            "person p 1 1 -1;", "pier -1;", "seed -1;", "pull=-1;", "pull=1+-1;", "mermaid m 1 1 - -1 1;"}) {
            CHECK.fault(text, 1, text.lastIndexOf('-'));
        }
    }

    private static void numbersAreAsTold() {
        CHECK.about("the least and the greatest numbers are as told");
        int[][] mermaids = {{0, 0, -3, -3}, {9, 9, 3, 3}, {0, 9, 0, -3}, {9, 0, -3, 0}};
        int[][] people = {{0, 0, 1}, {9, 9, 99}, {0, 9, 99}, {9, 0, 1}};
        StringBuilder text = new StringBuilder();
        for (int i = 0; i < 4; i++) {
            text.append("mermaid m").append("abcd".charAt(i));
            for (int n : mermaids[i]) {
                text.append(n < 0 ? " - " : " ").append(Math.abs(n));
            }
            text.append(";person p").append("abcd".charAt(i));
            for (int n : people[i]) {
                text.append(" ").append(n);
            }
            text.append(";");
        }
        SeaHair hair = CHECK.read(text + "strand ma pa 1;strand md pd 9;");
        for (int i = 0; i < 4; i++) {
            for (int what = 0; what < 4; what++) {
                CHECK.due("mermaid(" + i + ", " + what + ")", hair.mermaid(i, what), mermaids[i][what]);
            }
            for (int what = 0; what < 3; what++) {
                CHECK.due("person(" + i + ", " + what + ")", hair.person(i, what), people[i][what]);
            }
        }
        CHECK.due("LENGTH 1", hair.strand(0, 2), 1);
        CHECK.due("LENGTH 9", hair.strand(1, 2), 9);
        hair = CHECK.read("mermaid m 1 1 -0 - 0;");
        CHECK.due("a step of -0", hair.mermaid(0, 2), 0);
        CHECK.due("a step of - 0", hair.mermaid(0, 3), 0);
    }

    /** So many of a sort, each with a NAME of its own. */
    private static String many(String sort, String numbers, int n) {
        StringBuilder text = new StringBuilder();
        for (int i = 0; i < n; i++) {
            text.append(sort).append(" ").append(sort.charAt(0)).append((char) ('a' + i)).append(numbers);
        }
        return text.toString();
    }

    private static void sort(String ahead, String sort, String numbers, int most) {
        String full = ahead + many(sort, numbers, most);
        CHECK.fault(full, 0, -1);
        CHECK.fault(ahead + many(sort, numbers, most + 1), 2, full.length());
        CHECK.fault(full + sort, 2, full.length());
        CHECK.fault(full + "\n " + sort + " ?", 2, full.length() + 2);
        CHECK.fault(full + "pier 3;" + sort + ";", 2, full.length() + 7);
        CHECK.fault(full + "pier 3", 1, full.length() + 6);
    }

    private static void room() {
        CHECK.about("ROOM: one more of a sort than told (at its first TOKEN)");
        sort("", "mermaid", " 1 1 1 1;", 4);
        sort("", "person", " 1 1 1;", 6);
        sort(many("mermaid", " 1 1 1 1;", 4), "person", " 1 1 1;", 6);
        sort(many("person", " 1 1 1;", 6), "mermaid", " 1 1 1 1;", 4);
        String eight = BOTH + "strand m p 1;".repeat(8);
        CHECK.fault(eight, 0, -1);
        CHECK.fault(eight + "strand m p 1;", 2, eight.length());
        CHECK.fault(eight + "strand", 2, eight.length());
        CHECK.fault(eight + "strand ;", 2, eight.length());
        CHECK.fault(eight + "mermaid n 1 1 1 1;person q 1 1 1;", 0, -1);
        CHECK.about("LAWS, PIER, SEED: as many as there are TOKENS for");
        CHECK.fault("pier 1;".repeat(133), 0, -1);
        CHECK.fault("seed 1;".repeat(133), 0, -1);
        CHECK.fault("storm=1;".repeat(100), 0, -1);
    }

    private static void ifs() {
        CHECK.about("ROOM: a 5th if of a LAW (at it)");
        String one = "if 1 < 2 then 3 else ";
        for (String law : LAWS) {
            String head = law + " = ";
            for (int n = 0; n <= 4; n++) {
                CHECK.fault(head + one.repeat(n) + "4;", 0, -1);
            }
            int at = head.length() + 4 * one.length();
            CHECK.fault(head + one.repeat(5) + "4;", 2, at);
            CHECK.fault(head + one.repeat(6) + "4;", 2, at);
            CHECK.fault(head + one.repeat(4) + "if", 2, at);
            CHECK.fault(head + one.repeat(4) + "if ?", 2, at);
            CHECK.fault(head + one.repeat(4) + "?", 1, at);
            CHECK.fault(head + one.repeat(4) + "4;" + head + one.repeat(4) + "4;", 0, -1);
        }
        CHECK.about("an if stands ahead of an E alone");
        CHECK.fault("pull=(if 1 < 2 then 3 else 4);", 1, 6);
        CHECK.fault("pull=1+if 1 < 2 then 3 else 4;", 1, 7);
        CHECK.fault("pull=if if 1 < 2 then 3 else 4;", 1, 8);
    }

    private static void brackets() {
        CHECK.about("ROOM: a 7th ( within one another (at it)");
        String[] laws = {"#", "1+#", "#*2", "if # < 1 then 2 else 3", "if 1 < # then 2 else 3", "if 1 < 2 then # else 3",
            "if 1 < 2 then 3 else #", "if 1<2 then 1 else if 1<2 then 1 else if 1<2 then 1 else if 1<2 then # else 1"};
        for (String law : LAWS) {
            for (String form : laws) {
                String text = law + "=" + form + ";";
                int at = text.indexOf('#');
                CHECK.fault(text.replace("#", "(".repeat(6) + "far" + ")".repeat(6)), 0, -1);
                CHECK.fault(text.replace("#", "(".repeat(7) + "far" + ")".repeat(7)), 2, at + 6);
                CHECK.fault(text.replace("#", "(".repeat(8)), 2, at + 6);
                CHECK.fault(text.replace("#", "(".repeat(6) + ")"), 1, at + 6);
                CHECK.fault(text.replace("#", "(".repeat(6) + "far" + ")".repeat(7)), 1, at + 15);
                CHECK.fault(text.replace("#", "((((((1)))))+((((1)))))"), 0, -1);
                CHECK.fault(text.replace("#", "((((((1)))))+((((((1)))))))"), 2, at + 18);
                CHECK.fault(text.replace("#", "((((((1))))))*((((((1))))))"), 0, -1);
            }
        }
        CHECK.fault("pull=((((((1))))));price=((((((1))))));", 0, -1);
    }

    private static void numbered() {
        CHECK.about("numbered each from 0 on as they stand");
        StringBuilder text = new StringBuilder();
        for (int i = 0; i < 6; i++) {
            if (i < 4) {
                text.append("mermaid ").append((char) ('z' - i)).append(" ").append(i).append(" 9 0 0;");
            }
            text.append("person ").append((char) ('f' - i)).append(" ").append(9 - i).append(" 1 50;");
        }
        for (int i = 0; i < 8; i++) {
            text.append("strand ").append((char) ('z' - i % 4)).append(" ").append((char) ('f' - i % 6)).append(" ").append(i + 1)
                .append(";");
        }
        SeaHair hair = CHECK.read(text.toString());
        for (int i = 0; i < 8; i++) {
            CHECK.due("mermaid(" + i + ", 0)", hair.mermaid(i, 0), i < 4 ? i : -100);
            CHECK.due("person(" + i + ", 0)", hair.person(i, 0), i < 6 ? 9 - i : -100000);
            CHECK.due("strand(" + i + ", 0)", hair.strand(i, 0), i % 4);
            CHECK.due("strand(" + i + ", 1)", hair.strand(i, 1), i % 6);
            CHECK.due("strand(" + i + ", 2)", hair.strand(i, 2), i + 1);
        }
        CHECK.due("strand(8, 0)", hair.strand(8, 0), -1);
        CHECK.due("strand(-1, 0)", hair.strand(-1, 0), -1);
    }

    private static void notTold() {
        String two = "mermaid m 9 1 0 0;person p 1 1 7;strand m p 5;";
        CHECK.about("LAWS: PULL (length), STANDS (weight), PRICE (length), STORM (0), if not told; the last one");
        String[] laws = {"", "pull=1;", "stands=1;", "price=1;", "storm=1;", "pull=1;pull=2;", "stands=1;stands=2;", "price=1;price=2;",
            "storm=1;storm=2;", "pull=2;stands=3;price=4;storm=6;"};
        int[][] due = {{5, 7, 5, 0}, {1, 7, 5, 0}, {5, 1, 5, 0}, {5, 7, 1, 0}, {5, 7, 5, 1}, {2, 7, 5, 0}, {5, 2, 5, 0}, {5, 7, 2, 0},
            {5, 7, 5, 2}, {2, 3, 4, 6}};
        for (int i = 0; i < laws.length; i++) {
            for (String text : new String[] {two + laws[i], laws[i] + two}) {
                SeaHair hair = CHECK.read(text);
                CHECK.due("PULL of " + laws[i], hair.strand(0, 4), due[i][0]);
                CHECK.due("STANDS of " + laws[i], hair.person(0, 6), due[i][1]);
                CHECK.due("PRICE of " + laws[i], hair.strand(0, 5), due[i][2]);
                CHECK.due("STORM of " + laws[i], hair.person(0, 7), due[i][3]);
            }
        }
        CHECK.about("PIER: 0 .. 9 (4): the last one");
        CHECK.due("not told", CHECK.read("person p 1 1 7;").safe(0, 0), 50);
        for (int pier = 0; pier <= 9; pier++) {
            CHECK.due("pier " + pier, CHECK.read("person p 1 1 7;pier 4;pier " + pier + ";").safe(0, 0), 10 * (pier + 1));
        }
        CHECK.about("SEED 0 .. 9999 (0): the last one");
        for (int seed : new int[] {-1, 0, 1, 9998, 9999}) {
            SeaHair hair = CHECK.read("person p 1 1 7;storm=20;" + (seed < 0 ? "" : "seed 500;seed " + seed + ";"));
            boolean off = false;
            for (int n = 0; n <= 20; n++) {
                CHECK.due("seed " + seed + " in " + n, hair.then(0, n, 2), off ? 1 : 0);
                off |= Check.lot(Math.max(0, seed), 16 * n) < 20;
            }
        }
    }

    private static void inPlaceOfTheOneAhead() {
        CHECK.about("else it is in place of the one ahead");
        for (String text : List.of("", " ", "pier 0;", "person p 1 1 1;storm=50;",
                "mermaid m 1 1 1 1;person p 3 3 1;strand m p 7;seed 9;")) {
            SeaHair hair = Midway.make();
            hair.back(Midway.BYTES);
            Check.put(hair, text);
            CHECK.due("read()", hair.read(), 0);
            for (int what = 3; what <= 11; what++) {
                CHECK.due("count(" + what + ") of " + text, hair.count(what), 0);
            }
            CHECK.due("undo()", hair.undo(), false);
            for (int slot = 0; slot < 3; slot++) {
                CHECK.due("restore(" + slot + ")", hair.restore(slot), false);
            }
            CHECK.due("where(1)", hair.where(1), -1);
            CHECK.same("as a new object by " + text, hair, CHECK.read(text));
        }
    }
}
