import java.util.List;

/**
 * The boundary cases of FAULTS: with which TOKENS a text goes on, where it may end, the 401st TOKEN,
 * which of several FAULTS counts, and that a text with one changes nothing but the tape.
 */
final class FaultEdgeTest {
    private static final Check CHECK = new Check();
    private static final String WORDS = "mermaid person strand pull stands price storm pier seed if then else";
    private static final String BEGINS = "mermaid person strand pull stands price storm pier seed";
    private static final String VARS = "length far moon month weight across down which wears";
    private static final String UNIT = "1 ( " + VARS;
    private static final String JOINS = "+ - * /";
    private static final String KINDS = WORDS + " " + VARS + " n 1 ; = + - * / < ( ) ? abcdefghi 12345 A";
    private static final String TOLD = "mermaid m 1 1 1 1;person p 1 1 1;";

    /** TELLS, each TOKEN with those that may stand in its place, between bars. */
    private static final String[][] TELLS = {
        {"mermaid|" + BEGINS, "n|n", "2|1", "3|1", "-|- 1", "1|1", "2|- 1", ";|;"},
        {"person|" + BEGINS, "n|n", "2|1", "3|1", "1|1", ";|;"},
        {"strand|" + BEGINS, "m|n", "p|n", "3|1", ";|;"},
        {"pier|" + BEGINS, "3|1", ";|;"},
        {"seed|" + BEGINS, "3|1", ";|;"},
        {"pull|" + BEGINS, "=|=", "far|if " + UNIT, ";|; " + JOINS},
        {"stands|" + BEGINS, "=|=", "1|if " + UNIT, "+|; " + JOINS, "wears|" + UNIT, "*|; " + JOINS, "2|" + UNIT, "-|; " + JOINS,
            "3|" + UNIT, "/|; " + JOINS, "4|" + UNIT, ";|; " + JOINS},
        {"price|" + BEGINS, "=|=", "(|if " + UNIT, "1|" + UNIT, "-|) " + JOINS, "(|" + UNIT, "far|" + UNIT, ")|) " + JOINS,
            ")|) " + JOINS, "/|; " + JOINS, "2|" + UNIT, ";|; " + JOINS},
        {"storm|" + BEGINS, "=|=", "if|if " + UNIT, "1|" + UNIT, "<|< " + JOINS, "(|" + UNIT, "2|" + UNIT, ")|) " + JOINS,
            "then|then " + JOINS, "moon|" + UNIT, "else|else " + JOINS, "if|if " + UNIT, "3|" + UNIT, "<|< " + JOINS, "month|" + UNIT,
            "then|then " + JOINS, "4|" + UNIT, "else|else " + JOINS, "5|if " + UNIT, ";|; " + JOINS},
    };

    public static void main(String[] args) {
        goesOn();
        ends();
        tokens400();
        token401IsNone();
        syntaxAndRoom();
        ofOnePlaceTheLeast();
        ifThereIsNone();
        twice();
        noSuchName();
        changesNothing();
        readAgain();
        CHECK.end();
    }

    private static String token(String[] tell, int i) {
        return tell[i].substring(0, tell[i].indexOf('|'));
    }

    private static String upTo(String[] tell, int size) {
        StringBuilder text = new StringBuilder();
        for (int i = 0; i < size; i++) {
            text.append(token(tell, i)).append(' ');
        }
        return text.toString();
    }

    private static void goesOn() {
        CHECK.about("SYNTAX: a TOKEN, or what is none, with which no text goes on");
        for (String[] tell : TELLS) {
            CHECK.fault(TOLD + upTo(tell, tell.length), 0, -1);
            for (int i = 0; i < tell.length; i++) {
                String ahead = TOLD + upTo(tell, i);
                List<String> may = List.of(tell[i].substring(tell[i].indexOf('|') + 1).split(" "));
                for (String kind : KINDS.split(" ")) {
                    SeaHair hair = new SeaHair();
                    Check.put(hair, ahead + kind + " ?");
                    boolean there = hair.read() == 1 && hair.place() == ahead.length();
                    CHECK.due("SYNTAX there: " + ahead + kind, there, !may.contains(kind));
                }
            }
        }
    }

    private static void ends() {
        CHECK.about("SYNTAX: the text's end: its length");
        for (String[] tell : TELLS) {
            for (int i = 1; i < tell.length; i++) {
                String text = TOLD + upTo(tell, i);
                CHECK.fault(text, 1, text.length());
                CHECK.fault(text.trim(), 1, text.length() - 1);
                CHECK.fault(text + "\n\n", 1, text.length() + 2);
            }
            CHECK.fault(TOLD + upTo(tell, tell.length) + "\n\n", 0, -1);
        }
    }

    /** So many TOKENS, from 6 on, that are a text: TELLS of 3 and of 4. */
    private static String filler(int tokens) {
        int fours = tokens % 3;
        return "pull=1;".repeat(fours) + "pier 1;".repeat((tokens - 4 * fours) / 3);
    }

    private static void tokens400() {
        CHECK.about("ROOM: a 401st TOKEN");
        int ahead = 13;
        for (String[] tell : TELLS) {
            String full = TOLD + filler(400 - ahead - tell.length) + upTo(tell, tell.length);
            CHECK.fault(full, 0, -1);
            CHECK.fault(full + "seed", 2, full.length());
            for (int i = 0; i < tell.length; i++) {
                String text = TOLD + filler(400 - ahead - i);
                String more = upTo(tell, i);
                CHECK.fault(text + upTo(tell, tell.length), 2, text.length() + more.length());
                CHECK.fault(text + more, i == 0 ? 0 : 1, i == 0 ? -1 : text.length() + more.length());
            }
        }
        CHECK.fault(filler(399) + "pier", 1, filler(399).length() + 4);
        CHECK.fault(filler(400), 0, -1);
        CHECK.fault(filler(401), 2, filler(401).length() - 1);
    }

    private static void token401IsNone() {
        CHECK.about("of one place the least: a 401st with which no text goes on is SYNTAX");
        String full = filler(400);
        for (String none : new String[] {"?", "x", "7", ";", "then", "abcdefghi", "12345", "\u0000", "\u00ff"}) {
            CHECK.fault(full + none, 1, full.length());
            CHECK.fault(full + " " + none + " pier 1;", 1, full.length() + 1);
        }
        for (String begins : BEGINS.split(" ")) {
            CHECK.fault(full + begins, 2, full.length());
            CHECK.fault(full + begins + "?", 2, full.length());
        }
        CHECK.fault(filler(399 - 3) + "pier 1 1;", 1, filler(396).length() + 7);
        CHECK.fault("pull=" + "1+".repeat(199) + "1;", 2, 403);
        CHECK.fault("pull=" + "1+".repeat(199) + "+;", 1, 403);
        CHECK.fault("pull=" + "1+".repeat(199) + "((((((((", 2, 403);
    }

    private static void syntaxAndRoom() {
        CHECK.about("the first by its place");
        String people = "person a 1 1 1;person b 1 1 1;person c 1 1 1;person d 1 1 1;person e 1 1 1;person f 1 1 1;";
        CHECK.fault(people + "person g 1 1 1;?", 2, people.length());
        CHECK.fault(people + "?person g 1 1 1;", 1, people.length());
        CHECK.fault(people + "pier;person g 1 1 1;", 1, people.length() + 4);
        CHECK.fault(people + "pull=((((((((;person g 1 1 1;", 2, people.length() + 11);
        CHECK.fault("pull=(((((((1)))))));" + people + "person g 1 1 1;", 2, 11);
        CHECK.fault("pull=((((((1)))))));" + people + "person g 1 1 1;", 1, 18);
        CHECK.fault(people + "person g 1 1 1;" + filler(400), 2, people.length());
        CHECK.fault(people + filler(364) + "pier 1;person g 1 1 1;", 2, (people + filler(364)).length());
    }

    private static void ofOnePlaceTheLeast() {
        CHECK.about("of one place the least");
        // the seventh of its sort, and the 401st: both are ROOM
        String people = "person a 1 1 1;person b 1 1 1;person c 1 1 1;person d 1 1 1;person e 1 1 1;person f 1 1 1;";
        String full = people + filler(364);
        CHECK.fault(full + "person g 1 1 1;", 2, full.length());
        CHECK.fault(full + "persons g 1 1 1;", 1, full.length());
    }

    /** Texts with one FAULT each of 3, 4 and 5, its place, and how many TOKENS they have; # is a letter of its own. */
    private static final String[] MEANING = {"person #a 1 1 1;person #a 1 1 1;", "strand #b #c 1;", "person #d 1 10 1;"};
    private static final int[] PLACES = {23, 7, 12};
    private static final int[] TOKENS = {12, 5, 6};

    private static void ifThereIsNone() {
        CHECK.about("if there is none, likewise: the first by its place");
        for (int i = 0; i < 3; i++) {
            String one = MEANING[i].replace('#', 'x');
            CHECK.fault(one, 3 + i, PLACES[i]);
            CHECK.fault(one + "?", 1, one.length());
            CHECK.fault(one + "pier", 1, one.length() + 4);
            CHECK.fault(one + "pull=(((((((", 2, one.length() + 11);
            String full = one + filler(400 - TOKENS[i]);
            CHECK.fault(full, 3 + i, PLACES[i]);
            CHECK.fault(full + "pier 1;", 2, full.length());
            CHECK.fault("?" + one, 1, 0);
            CHECK.fault("pull=(((((((1)))))));" + one, 2, 11);
            for (int k = 0; k < 3; k++) {
                CHECK.fault(one + MEANING[k].replace('#', 'y'), 3 + i, PLACES[i]);
                CHECK.fault(" pier 3; " + one + MEANING[k].replace('#', 'y'), 3 + i, PLACES[i] + 9);
            }
        }
    }

    private static void twice() {
        CHECK.about("TWICE: a NAME told already (of MERMAIDS and PEOPLE together)");
        String[] sorts = {"mermaid # 1 1 1 1;", "person # 1 1 1;"};
        for (String first : sorts) {
            for (String second : sorts) {
                String one = first.replace("#", "abcdefgh");
                int at = one.length() + second.indexOf('#');
                CHECK.fault(one + second.replace("#", "abcdefgh"), 3, at);
                CHECK.fault(one + second.replace("#", "abcdefg"), 0, -1);
                CHECK.fault(one + second.replace("#", "abcdefgi"), 0, -1);
                CHECK.fault(one + "pier 3;" + second.replace("#", "abcdefgh"), 3, at + 7);
                CHECK.fault(one + second.replace("#", "abcdefgh").repeat(2), 3, at);
            }
        }
        CHECK.fault("mermaid a 1 1 1 1;mermaid b 1 1 1 1;mermaid c 1 1 1 1;mermaid a 1 1 1 1;", 3, 62);
        CHECK.fault("strand n n 1;mermaid n 1 1 1 1;", 4, 7);
    }

    private static void noSuchName() {
        CHECK.about("NAME: (at it) no such MERMAID, PERSON told ahead");
        int at = TOLD.length();
        CHECK.fault(TOLD + "strand m p 1;", 0, -1);
        CHECK.fault(TOLD + "strand p m 1;", 4, at + 7);
        CHECK.fault(TOLD + "strand p p 1;", 4, at + 7);
        CHECK.fault(TOLD + "strand m m 1;", 4, at + 9);
        CHECK.fault(TOLD + "strand mm p 1;", 4, at + 7);
        CHECK.fault(TOLD + "strand m pp 1;", 4, at + 9);
        CHECK.fault("strand m p 1;" + TOLD, 4, 7);
        CHECK.fault("mermaid m 1 1 1 1;strand m p 1;person p 1 1 1;", 4, 27);
        CHECK.fault("person p 1 1 1;strand m p 1;mermaid m 1 1 1 1;", 4, 22);
        SeaHair hair = CHECK.read("person p 1 1 1;mermaid m 1 1 1 1;");
        Check.put(hair, "strand m p 1;");
        CHECK.due("names of the text ahead are no more", hair.read(), 4);
        Check.put(hair, "person m 1 1 1;");
        CHECK.due("nor told twice", hair.read(), 0);
    }

    /** Texts read one behind the other by one object, against a new object for each. */
    private static void readAgain() {
        CHECK.about("a text is read as by a new object, whatever was read ahead of it");
        String long1 = "person p 1 1 1;storm=1;stands=1" + "+1".repeat(190) + ";";
        String all = "mermaid m 1 2 3 1;person p 3 3 3;strand m p 7;pull=1;stands=2;price=3;storm=4;pier 9;seed 5;";
        String[] texts = {all, "?", all, "person p 1 1 1;pier 10;", "person p 1 1 1;storm=9/3;", all, "mermaid p 4 4 1 1;", "", "person m 2 2 2;",
            long1, long1, long1, long1, "mermaid m 9 9 0 0;person p 3 3 3;strand m p 7;"};
        for (int last = 0; last < texts.length; last++) {
            SeaHair hair = new SeaHair();
            // the last three are enough: a Book that was read before is used again behind two
            for (int i = Math.max(0, last - 3); i <= last; i++) {
                Check.put(hair, texts[i]);
                int fault = hair.read();
                CHECK.due("read() of " + texts[i], fault, i == 1 ? 1 : i == 3 ? 5 : 0);
            }
            if (last != 1 && last != 3) {
                CHECK.same("read behind others: " + texts[last], hair, CHECK.read(texts[last]));
            }
        }
        SeaHair hair = new SeaHair();
        for (int i = 0; i < 8; i++) {
            Check.put(hair, long1);
            CHECK.due("read() number " + i, hair.read(), 0);
            CHECK.due("STANDS", hair.person(0, 6), 191);
            CHECK.due("STORM", hair.person(0, 7), 1);
        }
        CHECK.about("a SEED not told is 0, whatever it was");
        for (int reads = 1; reads <= 3; reads++) {
            hair = CHECK.read("seed 9999;");
            for (int i = 1; i < reads; i++) {
                hair.read();
            }
            Check.put(hair, "person p 1 1 1;storm=15;");
            CHECK.due("read()", hair.read(), 0);
            for (int n = 0; n <= 12; n++) {
                int stood = 0;
                for (int seed = 0; seed < 20; seed++) {
                    boolean off = false;
                    for (int month = 0; month < n; month++) {
                        off |= Check.lot(seed, 16 * month) < 15;
                    }
                    stood += off ? 0 : 1;
                }
                CHECK.due("year(0, " + n + ", 20) behind " + reads, hair.year(0, n, 20), stood);
            }
        }
    }

    private static void changesNothing() {
        CHECK.about("a text with a FAULT changes nothing but the tape");
        String good = "mermaid x 1 1 1 1;person y 3 3 3;strand x y 1;pull=1;stands=2;price=3;storm=4;pier 9;seed 5;";
        String[] bad = {"?", "pier", "mermaid q 1 1 1 1;".repeat(5), "pull=(((((((", "person y 1 1 1;", "strand y y 1;", "pier 10;"};
        int[] numbers = {1, 1, 2, 2, 3, 4, 5};
        for (int i = 0; i < bad.length; i++) {
            for (String text : new String[] {good + bad[i], bad[i].endsWith(";") && i != 4 && i != 5 ? bad[i] + good : good + bad[i]}) {
                SeaHair asked = Midway.make();
                SeaHair left = Midway.make();
                asked.back(Midway.BYTES);
                left.back(Midway.BYTES);
                Check.put(asked, text);
                CHECK.due("read() of " + text, asked.read(), numbers[i]);
                Check.put(asked, "pi");
                Check.put(left, "pi");
                CHECK.same("behind a FAULT " + numbers[i], asked, left);
            }
        }
    }
}
