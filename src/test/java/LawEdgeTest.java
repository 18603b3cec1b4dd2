/**
 * The boundary cases of LAWS, part II: ints of 32 bits that wrap, / by 0 and towards 0, ifs that hold
 * just so, VARS that a LAW has not, and between which numbers PULL, STANDS, PRICE and STORM are held.
 */
final class LawEdgeTest {
    private static final Check CHECK = new Check();
    /** 2,147,483,647, the greatest of 32 bits. */
    private static final String MOST = "(9999*9999*21+9999*4790+8416)";
    private static final String LEAST = "(0-" + MOST + "-1)";
    private static final String ONE = "mermaid m 9 5 0 0;person p 4 3 6;strand m p 7;";

    public static void main(String[] args) {
        wraps();
        towards0();
        by0();
        ifs();
        heldTo();
        varsNotTold();
        varsAtTheirEdges();
        longest();
        CHECK.end();
    }

    private static int price(String law) {
        return CHECK.read(ONE + "price=" + law + ";").strand(0, 5);
    }

    /** Whether the first is less than the second, by an if of a LAW. */
    private static void less(String left, String right, boolean due) {
        CHECK.due(left + " < " + right, price("if " + left + "<" + right + " then 1 else 2") == 1, due);
    }

    private static void alike(String left, String right) {
        less(left, right, false);
        less(right, left, false);
    }

    private static void wraps() {
        CHECK.about("ints of 32 bits that wrap");
        less("0", MOST, true);
        less(MOST + "-1", MOST, true);
        less(MOST + "+1", "0", true);
        alike(MOST + "+1", LEAST);
        alike(LEAST + "-1", MOST);
        alike(MOST + "+" + MOST, "0-2");
        alike(MOST + "*2", "0-2");
        alike(MOST + "*" + MOST, "1");
        alike(LEAST + "*2", "0");
        alike(LEAST + "+" + LEAST, "0");
        alike(LEAST + "*" + LEAST, "0");
        alike(LEAST + "*(0-1)", LEAST);
        alike("0-" + LEAST, LEAST);
        alike(LEAST + "/(0-1)", LEAST);
        alike(LEAST + "/1", LEAST);
        alike(MOST + "/(0-1)", "0-" + MOST);
        alike("8192*8*8192*8", "0");
        CHECK.due("8192 * 8 * 8192 * 8 + 7", price("8192*8*8192*8+7"), 7);
        CHECK.due("twice the greatest and 12", price(MOST + "*2+12"), 10);
        CHECK.due("9999 by itself four times", price("9999*9999*9999*9999-(9999*9999*9999*9999-5)"), 5);
        CHECK.due("held only behind all of it", price("9999*9999-9999*9999+3"), 3);
        CHECK.due("below 0 on the way", price("0-9999+9999+4"), 4);
        less(LEAST, "0-" + MOST, true);
        less(LEAST, MOST, true);
        less(MOST, LEAST, false);
    }

    private static void towards0() {
        CHECK.about("/ rounded towards 0");
        String[] laws = {"7/2", "8/2", "9/2", "1/2", "(0-1)/2+5", "(0-7)/2+5", "7/(0-2)+5", "(0-7)/(0-2)", "(0-8)/2+5", "6/7",
            "(0-6)/7+5", "0/7", "9999/9999", "9998/9999", "7/2*2", "7*2/2", "100/7/7", "100-7/2-1"};
        int[] due = {3, 4, 4, 0, 5, 2, 2, 3, 1, 0, 5, 0, 1, 0, 6, 7, 2, 96};
        for (int i = 0; i < laws.length; i++) {
            CHECK.due(laws[i], price(laws[i]), due[i]);
        }
    }

    private static void by0() {
        CHECK.about("a LAW in which something that is looked at is divided by 0 is 0");
        for (String zero : new String[] {"1/0", "0/0", "0000/0000", "5+1/0", "1/0+5", "5-1/0", "1/0*0+5", "(1/0)", "5+(((1/(0))))",
            "1/(length-7)+5", "5/(far/6)", "1/(2/3)+9", "1/0/1+9", "9/(1/0)+9", "1/moon", "if 1/0<1 then 5 else 6",
            "if 1<1/0 then 5 else 6", "if 1<2 then 1/0 else 6", "if 2<1 then 5 else 1/0", "if 2<1 then 5 else if 1/0<2 then 5 else 6",
            "if 2<1 then 5 else if 2<1/0 then 5 else 6", "if 9/0<9/0 then 5 else 6"}) {
            CHECK.due("PRICE " + zero, price(zero), 0);
        }
        CHECK.about("what is not looked at");
        for (String five : new String[] {"if 1<2 then 5 else 1/0", "if 2<1 then 1/0 else 5", "if 1<2 then 5 else if 1/0<1 then 1/0 else 1/0",
            "if 2<1 then 1/0 else if 1<2 then 5 else 1/0", "if 2<1 then 1/0 else if 2<1 then 1/0 else 5", "5+0/1"}) {
            CHECK.due("PRICE " + five, price(five), 5);
        }
        CHECK.about("each of the four LAWS divided by 0 is 0");
        SeaHair hair = CHECK.read(ONE + "pull=9+1/0;stands=9+1/0;price=9+1/0;storm=9+1/0;");
        CHECK.due("PULL", hair.strand(0, 4), 0);
        CHECK.due("STANDS", hair.person(0, 6), 0);
        CHECK.due("PRICE", hair.strand(0, 5), 0);
        CHECK.due("STORM", hair.person(0, 7), 0);
        hair = CHECK.read("mermaid m 9 5 0 0;person p 3 3 6;person q 4 3 6;strand m p 7;strand m q 7;pull=12/(far-5)*12;");
        CHECK.due("far 6", hair.strand(0, 4), 99);
        CHECK.due("far 5, by 0", hair.strand(1, 4), 0);
        CHECK.due("the next one looks anew", hair.strand(0, 4), 99);
        CHECK.due("together", hair.count(12), 14);
    }

    private static void ifs() {
        CHECK.about("the E of the first if that holds (one less than the other), else the last one");
        less("1", "2", true);
        less("2", "2", false);
        less("3", "2", false);
        less("0-1", "0", true);
        less("0", "0-1", false);
        String form = "if a<1 then 11 else if b<1 then 12 else if c<1 then 13 else if d<1 then 14 else 15";
        for (int holds = 0; holds < 16; holds++) {
            String law = form;
            int due = 15;
            for (int i = 3; i >= 0; i--) {
                boolean is = (holds >> i & 1) != 0;
                law = law.replace("abcd".charAt(i) + "<1", is ? "0<1" : "1<1");
                due = is ? 11 + i : due;
            }
            CHECK.due(law, price(law), due);
        }
    }

    private static void heldTo() {
        CHECK.about("PULL held to 0 .. 99, STANDS and PRICE to 0 .. 999, STORM to 0 .. 100");
        String[] told = {"0-9999", "0-1", "0", "1", "98", "99", "100", "101", "998", "999", "1000", "9999", MOST, LEAST};
        int[] are = {-9999, -1, 0, 1, 98, 99, 100, 101, 998, 999, 1000, 9999, Integer.MAX_VALUE, Integer.MIN_VALUE};
        for (int i = 0; i < told.length; i++) {
            SeaHair hair = CHECK.read(ONE + "pull=" + told[i] + ";stands=" + told[i] + ";price=" + told[i] + ";storm=" + told[i] + ";");
            CHECK.due("PULL of " + told[i], hair.strand(0, 4), Math.max(0, Math.min(99, are[i])));
            CHECK.due("STANDS of " + told[i], hair.person(0, 6), Math.max(0, Math.min(999, are[i])));
            CHECK.due("PRICE of " + told[i], hair.strand(0, 5), Math.max(0, Math.min(999, are[i])));
            CHECK.due("STORM of " + told[i], hair.person(0, 7), Math.max(0, Math.min(100, are[i])));
            CHECK.due("by that it is pulled", hair.person(0, 4), Math.max(0, Math.min(99, are[i])));
        }
    }

    /** Which of the four LAWS have a VAR, as letters: pUll, Stands, pRice, sTorm. */
    private static void varOf(String var, String laws, int value) {
        String law = "=" + var + "+1;";
        SeaHair hair = CHECK.read("mermaid a 0 0 0 0;mermaid m 9 5 0 0;person o 0 0 90;person p 4 3 66;strand a o 9;strand a o 9;"
            + "strand m p 8;strand a p 9;strand a p 9;pull" + law + "stands" + law + "price" + law + "storm=if month<7 then 0 else "
            + var + "+1;");
        hair.months(7);
        CHECK.due("PULL of " + var, hair.strand(2, 4), laws.contains("U") ? value + 1 : 1);
        CHECK.due("STANDS of " + var, hair.person(1, 6), laws.contains("S") ? value + 1 : 1);
        CHECK.due("PRICE of " + var, hair.strand(2, 5), laws.contains("R") ? value + 1 : 1);
        CHECK.due("STORM of " + var, hair.person(1, 7), laws.contains("T") ? value + 1 : 1);
    }

    private static void varsNotTold() {
        CHECK.about("a VAR not told for a LAW is 0 in it; moon, month for all");
        // nobody is moved in the seven months: what PULL comes to is below what STANDS comes to, or pulls against each other
        varOf("length+(month-7)*99", "UR", 8);
        varOf("far+(month-7)*99", "UR", 5);
        varOf("weight+(month-7)*99", "UST", 66);
        varOf("which+(month-7)*99", "UR", 2);
        varOf("moon+(month-7)*99", "USRT", 3);
        varOf("month+(month-7)*99", "USRT", 7);
        varOf("across+(month-7)*99", "ST", 4);
        varOf("down+(month-7)*99", "ST", 3);
        varOf("wears+(month-7)*99", "SRT", 3);
    }

    private static void varsAtTheirEdges() {
        CHECK.about("VARS at the least and the greatest that they can be");
        SeaHair hair = CHECK.read("mermaid m 9 0 0 0;person p 0 0 1;person q 9 9 99;" + "strand m p 1;".repeat(7) + "strand m p 9;"
            + "pier 9;stands=across*100+down*10+wears;price=far*100+wears*10+which;storm=weight;pull=weight;");
        CHECK.due("across 0, down 0, wears 8", hair.person(0, 6), 8);
        CHECK.due("across 9, down 9, wears 0", hair.person(1, 6), 990);
        CHECK.due("far 9, wears 8, which 0", hair.strand(0, 5), 980);
        CHECK.due("far 9, wears 8, which 7", hair.strand(7, 5), 987);
        CHECK.due("weight 1", hair.person(0, 7), 1);
        CHECK.due("weight 99", hair.person(1, 7), 99);
        CHECK.due("the wearer's weight", hair.strand(7, 4), 1);
        for (int s = 0; s < 8; s++) {
            CHECK.due("cut(" + s + ")", hair.cut(s), true);
            CHECK.due("wears " + (7 - s), hair.person(0, 6), 7 - s);
            CHECK.due("person(0, 8)", hair.person(0, 8), 7 - s);
        }
        CHECK.about("moon: the months' rest by 4; month: counted on");
        hair = CHECK.read("mermaid m 9 0 0 0;person p 0 0 1;strand m p 1;pull=0;price=moon*100+month;");
        for (int month = 0; month <= 9; month++) {
            CHECK.due("count(3)", hair.count(3), month);
            CHECK.due("count(4)", hair.count(4), month % 4);
            CHECK.due("PRICE", hair.strand(0, 5), month % 4 * 100 + month);
            hair.months(1);
        }
        hair = CHECK.read("mermaid m 9 0 0 0;person p 0 0 1;strand m p 1;pull=0;price=month-2900*10;");
        for (int i = 1; i <= 490; i++) {
            hair.months(60);
        }
        CHECK.due("months", hair.count(3), 29400);
        CHECK.due("month in a LAW", hair.strand(0, 5), 400);
        CHECK.due("moon", hair.count(4), 0);
        CHECK.due("one more", hair.months(1), 29401);
        CHECK.due("moon", hair.count(4), 1);
    }

    private static void longest() {
        CHECK.about("a LAW as long as 400 TOKENS, and as deep as six brackets");
        String told = "mermaid m 9 5 0 0;person p 4 3 6;strand m p 7;";
        // 18 TOKENS ahead, 3 up to the first 1, two for each of 189, and the ; is the 400th
        CHECK.due("400 TOKENS", CHECK.read(told + "price=1" + "+1".repeat(189) + ";").strand(0, 5), 190);
        CHECK.fault(told + "price=1" + "+1".repeat(190) + ";", 2, told.length() + 7 + 2 * 189 + 1);
        String deep = "1+2*(1+2*(1+2*(1+2*(1+2*(1+2*(1+2*3))))))";
        CHECK.due("deep", price(deep), 511);
        CHECK.due("deep in each place", price("if " + deep + "<" + deep + "+1 then " + deep + "+1 else " + deep), 512);
        CHECK.due("deep, the last one", price("if " + deep + "<" + deep + " then " + deep + "+1 else " + deep), 511);
    }
}
