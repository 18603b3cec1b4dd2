/** Promises 1 to 5: a new object, the tape, texts and their FAULTS. */
final class TextTest {
    private static final Check CHECK = new Check();

    public static void main(String[] args) {
        newObject();
        tape();
        syntax();
        ends();
        tokens();
        room();
        tokenRoom();
        meaning();
        faultsInOrder();
        whatAFaultLeaves();
        whatAReadClears();
        lastOneCounts();
        CHECK.end();
    }

    private static void newObject() {
        CHECK.about("promise 1");
        SeaHair hair = new SeaHair();
        for (int what = 0; what <= 13; what++) {
            CHECK.due("count(" + what + ")", hair.count(what), 0);
        }
        CHECK.due("place()", hair.place(), -1);
        CHECK.due("mermaid(0, 4)", hair.mermaid(0, 4), -100);
        CHECK.due("person(0, 2)", hair.person(0, 2), -100000);
        CHECK.due("undo()", hair.undo(), false);
        CHECK.due("hold(2)", hair.hold(2), true);
        CHECK.due("restore(2)", hair.restore(2), true);
        CHECK.due("market(60)", hair.market(60), 0);
        CHECK.due("cutBest()", hair.cutBest(), -2);
    }

    private static void tape() {
        CHECK.about("promises 2 and 3");
        SeaHair hair = new SeaHair();
        CHECK.due("back(0)", hair.back(0), 0);
        CHECK.due("back(1)", hair.back(1), -1);
        CHECK.due("back(-1)", hair.back(-1), -1);
        for (int i = 1; i <= 100; i++) {
            CHECK.due("feed", hair.feed(0, -1, Integer.MIN_VALUE, Integer.MAX_VALUE, 1), 20 * i);
        }
        CHECK.due("feed over 2,000", hair.feed(1, 2, 3, 4, 5), -1);
        CHECK.due("count(8)", hair.count(8), 2000);
        CHECK.due("back(2001)", hair.back(2001), -1);
        CHECK.due("back(19)", hair.back(19), 1981);
        CHECK.due("feed of 1,981", hair.feed(1, 2, 3, 4, 5), -1);
        CHECK.due("count(8)", hair.count(8), 1981);
        CHECK.due("back(1)", hair.back(1), 1980);
        CHECK.due("feed of 1,980", hair.feed(1, 2, 3, 4, 5), 2000);
        CHECK.due("back(min)", hair.back(Integer.MIN_VALUE), -1);
        CHECK.due("back(max)", hair.back(Integer.MAX_VALUE), -1);
        CHECK.due("back(2000)", hair.back(2000), 0);
        CHECK.due("read()", hair.read(), 0);

        CHECK.about("the highest byte of a comes first");
        hair = new SeaHair();
        hair.feed(0x70696572, 0x20373b20, 0x20202020, 0x20202020, 0x2020203f);
        CHECK.due("read() of 'pier 7; .. ?'", hair.read(), 1);
        CHECK.due("place()", hair.place(), 19);
        CHECK.due("the tape is empty", hair.count(8), 0);
    }

    private static void syntax() {
        CHECK.about("promises 4 and 5, SYNTAX");
        CHECK.fault("", 0, -1);
        CHECK.fault(" \t\r\n ", 0, -1);
        CHECK.fault("mia", 1, 0);
        CHECK.fault(" 12", 1, 1);
        CHECK.fault(";", 1, 0);
        CHECK.fault("length", 1, 0);
        CHECK.fault("if", 1, 0);
        CHECK.fault("mermaid 1 1 1 1 1;", 1, 8);
        CHECK.fault("mermaid pull 1 1 1 1;", 1, 8);
        CHECK.fault("mermaid wears 1 1 1 1;", 1, 8);
        CHECK.fault("mermaid m -1 1 1 1;", 1, 10);
        CHECK.fault("mermaid m 1 1 --1 1;", 1, 15);
        CHECK.fault("mermaid m 1 1 +1 1;", 1, 14);
        CHECK.fault("mermaid m 1 1 1;", 1, 15);
        CHECK.fault("mermaid m 1 1 1 1 1;", 1, 18);
        CHECK.fault("person p 1 1 -1;", 1, 13);
        CHECK.fault("person p 1 1 1 1;", 1, 15);
        CHECK.fault("strand m 1;", 1, 9);
        CHECK.fault("pier -1;", 1, 5);
        CHECK.fault("seed x;", 1, 5);
        CHECK.fault("seed 1 2;", 1, 7);
        CHECK.fault("pull length;", 1, 5);
        CHECK.fault("pull = ;", 1, 7);
        CHECK.fault("pull = -1;", 1, 7);
        CHECK.fault("pull = 1 2;", 1, 9);
        CHECK.fault("pull = (1;", 1, 9);
        CHECK.fault("pull = 1);", 1, 8);
        CHECK.fault("pull = ();", 1, 8);
        CHECK.fault("pull = 1 + ;", 1, 11);
        CHECK.fault("pull = 1 < 2;", 1, 9);
        CHECK.fault("pull = x;", 1, 7);
        CHECK.fault("pull = if 1 then 2 else 3;", 1, 12);
        CHECK.fault("pull = if 1 < 2 < 3 then 2 else 3;", 1, 16);
        CHECK.fault("pull = if 1 < 2 then 2;", 1, 22);
        CHECK.fault("pull = if (1 < 2) then 2 else 3;", 1, 13);
        CHECK.fault("pull = 1 else 2;", 1, 9);
        CHECK.fault("pull = if 1 < 2 then if 1 < 2 then 3 else 4 else 5;", 1, 21);
        CHECK.fault("pull = if 1 < 2 then 3 else if 2 < 1 then 4 else 5;", 0, -1);
    }

    private static void ends() {
        CHECK.about("SYNTAX at the text's end");
        CHECK.fault("pier", 1, 4);
        CHECK.fault("pier ", 1, 5);
        CHECK.fault("pier 1", 1, 6);
        CHECK.fault("pier 1 \n ", 1, 9);
        CHECK.fault("pier 1;person", 1, 13);
        CHECK.fault("pull = (1", 1, 9);
        CHECK.fault("mermaid m 1 1 -", 1, 15);
    }

    private static void tokens() {
        CHECK.about("TOKENS");
        CHECK.fault("pier1;pier 2;", 0, -1);
        CHECK.fault("pi er 1;", 1, 0);
        CHECK.fault("PIER 1;", 1, 0);
        CHECK.fault("pierr 1;", 1, 0);
        CHECK.fault("mermaid abcdefgh 1 1 1 1;", 0, -1);
        CHECK.fault("mermaid abcdefghi 1 1 1 1;", 1, 8);
        CHECK.fault("mermaid m1 1 1 1;", 0, -1);
        CHECK.fault("mermaid az 1 1 1 1;person z 1 1 1;person `a 1 1 1;", 1, 41);
        CHECK.fault("mermaid az 1 1 1 1;person z 1 1 1;person {a 1 1 1;", 1, 41);
        CHECK.fault("pier /1;", 1, 5);
        CHECK.fault("pier :1;", 1, 5);
        CHECK.fault("seed 0000;", 0, -1);
        CHECK.fault("seed 9999;", 0, -1);
        CHECK.fault("seed 00000;", 1, 5);
        CHECK.fault("seed 12345678901234567890123;", 1, 5);
        CHECK.fault("pull=9999*far;", 0, -1);
        CHECK.fault("pull=10000*far;", 1, 5);
        CHECK.fault("pier 1\u0000;", 1, 6);
        CHECK.fault("pier\u00a01;", 1, 4);
        CHECK.fault("pier\u000b1;", 1, 4);
        CHECK.fault("pull = 1 > 2;", 1, 9);
        CHECK.fault("pier 1;\u00ff", 1, 7);
        CHECK.fault("pier 1;\u00fb", 1, 7);
        CHECK.fault("pier\t1\n;\r", 0, -1);
        CHECK.fault("m".repeat(2000), 1, 0);
        CHECK.fault("1".repeat(2000), 1, 0);
        CHECK.fault(" ".repeat(2000), 0, -1);
        CHECK.fault(" ".repeat(1999) + "a", 1, 1999);
        CHECK.fault(" ".repeat(1993) + "pier 1;", 0, -1);
    }

    private static String mermaids(int n) {
        StringBuilder text = new StringBuilder();
        for (int i = 0; i < n; i++) {
            text.append("mermaid m").append((char) ('a' + i)).append(" 1 1 0 0;");
        }
        return text.toString();
    }

    private static String people(int n) {
        StringBuilder text = new StringBuilder();
        for (int i = 0; i < n; i++) {
            text.append("person p").append((char) ('a' + i)).append(" 1 1 9;");
        }
        return text.toString();
    }

    private static void room() {
        CHECK.about("ROOM");
        String four = mermaids(4);
        String six = people(6);
        CHECK.fault(four + six, 0, -1);
        CHECK.fault(mermaids(5), 2, four.length());
        CHECK.fault(four + " mermaid", 2, four.length() + 1);
        CHECK.fault(people(7), 2, six.length());
        CHECK.fault(four + six + "mermaid ;", 2, four.length() + six.length());
        String eight = mermaids(1) + people(1) + "strand ma pa 1;".repeat(8);
        CHECK.fault(eight, 0, -1);
        CHECK.fault(eight + "strand ma pa 1;", 2, eight.length());
        CHECK.fault("strand x y 0;".repeat(9), 2, 13 * 8);
        CHECK.fault("pier 1;seed 2;pull=3;".repeat(20), 0, -1);

        String anIf = "if 1<2 then 3 else ";
        CHECK.fault("pull=" + anIf.repeat(4) + "5;", 0, -1);
        CHECK.fault("pull=" + anIf.repeat(5) + "5;", 2, 5 + 4 * anIf.length());
        CHECK.fault("pull=" + anIf.repeat(4) + "5;" + "storm=" + anIf.repeat(4) + "5;", 0, -1);
        CHECK.fault("pull=" + anIf.repeat(4) + "if", 2, 5 + 4 * anIf.length());

        CHECK.fault("pull=" + "(".repeat(6) + "1" + ")".repeat(6) + ";", 0, -1);
        CHECK.fault("pull=" + "(".repeat(7) + "1" + ")".repeat(7) + ";", 2, 11);
        CHECK.fault("pull=" + "(".repeat(2000 - 5), 2, 11);
        CHECK.fault("pull=" + "(1)*".repeat(9) + "((((((1))))))" + ";", 0, -1);
        CHECK.fault("pull=((1)+(((((1))))))+(((((((1)))))));", 2, 29);
        CHECK.fault("pull= if ((((((1)))))) < ((((((far)))))) then ((((((1)))))) else ((((((1))))));", 0, -1);
    }

    private static void tokenRoom() {
        CHECK.about("the 401st TOKEN");
        String plus = "pull=1" + "+1".repeat(198);
        CHECK.fault(plus + ";", 0, -1);
        CHECK.fault(plus, 1, plus.length());
        CHECK.fault(plus + ";;", 1, plus.length() + 1);
        CHECK.fault(plus + ";?", 1, plus.length() + 1);
        CHECK.fault(plus + "; pier 1;", 2, plus.length() + 2);
        CHECK.fault(plus + "; mia", 1, plus.length() + 2);
        CHECK.fault(plus + "; ", 0, -1);
        CHECK.fault(plus + "+1;", 2, plus.length() + 1);
        CHECK.fault(plus + "+;", 1, plus.length() + 1);
        CHECK.fault(plus + "+", 1, plus.length() + 1);
        CHECK.fault(plus + "+12345", 1, plus.length() + 1);
        CHECK.fault("pier 1;".repeat(133) + "pier;", 1, 7 * 133 + 4);
        CHECK.fault("pier 1;".repeat(134), 2, 7 * 133 + 5);
    }

    private static void meaning() {
        CHECK.about("TWICE");
        CHECK.fault("mermaid m 1 1 1 1;mermaid m 1 1 1 1;", 3, 26);
        CHECK.fault("mermaid m 1 1 1 1;person m 1 1 1;", 3, 25);
        CHECK.fault("person m 1 1 1;mermaid m 1 1 1 1;", 3, 23);
        CHECK.fault("person p 1 1 1;person p 1 1 1;", 3, 22);
        CHECK.fault("person p 1 1 1;person pp 1 1 1;person ppp 1 1 1;", 0, -1);

        CHECK.about("NAME");
        String both = "mermaid m 1 1 1 1;person p 1 1 1;";
        CHECK.fault(both + "strand m p 1;", 0, -1);
        CHECK.fault(both + "strand p p 1;", 4, both.length() + 7);
        CHECK.fault(both + "strand m m 1;", 4, both.length() + 9);
        CHECK.fault(both + "strand x y 0;", 4, both.length() + 7);
        CHECK.fault("strand m p 1;" + both, 4, 7);
        CHECK.fault("mermaid m 1 1 1 1;strand m p 1;person p 1 1 1;", 4, 27);

        CHECK.about("WRONG");
        CHECK.fault("mermaid m 0 9 3 - 3;", 0, -1);
        CHECK.fault("mermaid m 10 9 3 3;", 5, 10);
        CHECK.fault("mermaid m 0 10 3 3;", 5, 12);
        CHECK.fault("mermaid m 0 9 4 3;", 5, 14);
        CHECK.fault("mermaid m 0 9 - 4 3;", 5, 16);
        CHECK.fault("mermaid m 0 9 -0 -4;", 5, 18);
        CHECK.fault("person p 9 0 1;person q 0 9 99;", 0, -1);
        CHECK.fault("person p 10 0 1;", 5, 9);
        CHECK.fault("person p 9 10 1;", 5, 11);
        CHECK.fault("person p 9 0 0;", 5, 13);
        CHECK.fault("person p 9 0 100;", 5, 13);
        CHECK.fault(both + "strand m p 9;", 0, -1);
        CHECK.fault(both + "strand m p 0;", 5, both.length() + 11);
        CHECK.fault(both + "strand m p 10;", 5, both.length() + 11);
        CHECK.fault("pier 0;pier 9;", 0, -1);
        CHECK.fault("pier 10;pier 1;", 5, 5);
        CHECK.fault("seed 0;", 0, -1);
    }

    private static void faultsInOrder() {
        CHECK.about("which FAULT counts");
        CHECK.fault("pier 10;person p 1 1 0;", 5, 5);
        CHECK.fault("pier 10;?", 1, 8);
        CHECK.fault("pier 10;" + mermaids(5), 2, 8 + mermaids(4).length());
        CHECK.fault(mermaids(5) + "?", 2, mermaids(4).length());
        CHECK.fault("?" + mermaids(5), 1, 0);
        CHECK.fault("person p 1 1 0;person p 1 1 1;", 5, 13);
        CHECK.fault("person p 1 1 1;person p 1 1 0;", 3, 22);
        CHECK.fault("strand a b 0;pier 10;", 4, 7);
    }

    private static void whatAFaultLeaves() {
        CHECK.about("a FAULT changes nothing but the tape");
        SeaHair hair = CHECK.read("mermaid m 5 5 1 1;person p 2 2 7;strand m p 3;pier 6;seed 5;");
        hair.months(1);
        hair.hold(1);
        hair.tell(1, 1, 0, 0);
        Check.put(hair, "person q 1 1 1;person r 1 1 1;pull=0;pier 10;");
        CHECK.due("read()", hair.read(), 5);
        CHECK.due("place()", hair.place(), 42);
        CHECK.due("count(1)", hair.count(1), 1);
        CHECK.due("count(3)", hair.count(3), 1);
        CHECK.due("count(8)", hair.count(8), 0);
        CHECK.due("count(9)", hair.count(9), 1);
        CHECK.due("count(10)", hair.count(10), 1);
        CHECK.due("count(11)", hair.count(11), 1);
        CHECK.due("strand(0, 4)", hair.strand(0, 4), 3);
        CHECK.due("person(0, 2)", hair.person(0, 2), 7);
        CHECK.due("safe(0, 0)", hair.safe(0, 0), 70);
        CHECK.due("undo()", hair.undo(), true);
        CHECK.due("restore(1)", hair.restore(1), true);
        CHECK.due("place() still", hair.place(), 42);
        CHECK.due("read() of nothing", hair.read(), 0);
        CHECK.due("place() of it", hair.place(), -1);
    }

    private static void whatAReadClears() {
        CHECK.about("a text is in place of the one ahead");
        SeaHair hair = CHECK.read("mermaid m 5 5 1 1;person p 2 2 7;strand m p 3;pier 6;seed 5;pull=8;storm=100;");
        hair.months(3);
        hair.cut(0);
        hair.die(0);
        hair.hold(0);
        hair.tell(1, 1, 0, 0);
        Check.put(hair, "mermaid m 5 5 1 1;person p 2 2 7;strand m p 3;");
        CHECK.due("read()", hair.read(), 0);
        int[] due = {1, 1, 1, 0, 0, 0, 0, 0, 0, 0, 0, 0, 3, 0};
        for (int what = 0; what < due.length; what++) {
            CHECK.due("count(" + what + ")", hair.count(what), due[what]);
        }
        CHECK.due("undo()", hair.undo(), false);
        CHECK.due("restore(0)", hair.restore(0), false);
        CHECK.due("strand(0, 4)", hair.strand(0, 4), 3);
        CHECK.due("person(0, 7)", hair.person(0, 7), 0);
        CHECK.due("safe(0, 0) by pier 4", hair.safe(0, 0), 50);
        CHECK.due("read() of an empty tape", hair.read(), 0);
        CHECK.due("count(1)", hair.count(1), 0);

        CHECK.about("nothing is left of a text two reads ago");
        hair = CHECK.read("person a 0 0 1;person b 1 0 1;pull=8;stands=9;price=3;storm=100;seed 7;pier 0;mermaid m 9 9 1 1;"
            + "strand m b 4;");
        hair.read();
        Check.put(hair, "mermaid m 5 5 1 1;person p 2 2 7;strand m p 3;person q 3 2 7;");
        CHECK.due("read()", hair.read(), 0);
        CHECK.due("PULL", hair.strand(0, 4), 3);
        CHECK.due("STANDS", hair.person(0, 6), 7);
        CHECK.due("PRICE", hair.strand(0, 5), 3);
        CHECK.due("STORM", hair.person(0, 7), 0);
        CHECK.due("PIER", hair.safe(0, 0), 50);
        CHECK.due("who wears it", hair.strand(0, 1), 0);
        hair.read();
        hair.feed(0x73746f72, 0x6d3d3530, 0x3b706572, 0x736f6e20, 0x70203120);
        hair.feed(0x3120313b, 0x20202020, 0x20202020, 0x20202020, 0x20202020);
        CHECK.due("read() of storm=50", hair.read(), 0);
        SeaHair other = CHECK.read("storm=50;person p 1 1 1;seed 0;");
        for (int n = 0; n < 12; n++) {
            CHECK.due("SEED 0, in " + n, hair.then(0, n, 2), other.then(0, n, 2));
        }
    }

    private static void lastOneCounts() {
        CHECK.about("the last LAW, PIER, SEED");
        SeaHair hair = CHECK.read("pull=if 1<2 then 50 else 51;stands=8;pull=2;pier 9;pier 1;storm=1;seed 1;"
            + "mermaid m 5 5 1 1;person p 2 2 7;strand m p 3;stands=if far<1 then 6 else 1;storm=99;price=5;price=7;");
        CHECK.due("strand(0, 4)", hair.strand(0, 4), 2);
        CHECK.due("strand(0, 5)", hair.strand(0, 5), 7);
        CHECK.due("person(0, 6)", hair.person(0, 6), 6);
        CHECK.due("person(0, 7)", hair.person(0, 7), 99);
        CHECK.due("safe(0, 0)", hair.safe(0, 0), 20);
    }
}
