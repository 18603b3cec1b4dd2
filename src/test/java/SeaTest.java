/** Promises 6 to 13 and 36 to 38: what is there, LAWS, what is done, undone, held. */
final class SeaTest {
    private static final Check CHECK = new Check();
    private static final String TWO = "mermaid mia 9 9 -1 0; mermaid nix 2 9 0 -2; person ann 3 2 4; person bob 8 4 9;"
        + "person cid 2 3 2; strand mia ann 5; strand nix ann 3; strand nix cid 6; strand mia bob 9;"
        + "pull = length + moon; stands = weight + wears; price = length * 10 + far; pier 4;";

    public static void main(String[] args) {
        mermaids();
        mirrors();
        people();
        strands();
        moons();
        lawVars();
        lawArithmetic();
        lawIfs();
        holding();
        hands();
        cuts();
        deaths();
        months();
        offThePier();
        storms();
        undos();
        slots();
        counts();
        CHECK.end();
    }

    private static void mermaids() {
        CHECK.about("promise 6");
        SeaHair hair = CHECK.read(TWO);
        int[][] due = {{9, 9, -1, 0, 1}, {2, 9, 0, -2, 1}};
        for (int m = 0; m < 2; m++) {
            for (int what = 0; what < 5; what++) {
                CHECK.due("mermaid(" + m + ", " + what + ")", hair.mermaid(m, what), due[m][what]);
            }
        }
        int[][] wrong = {{-1, 0}, {2, 0}, {0, -1}, {0, 5}, {Integer.MAX_VALUE, 0}, {Integer.MIN_VALUE, 0}, {0, Integer.MIN_VALUE}};
        for (int[] w : wrong) {
            CHECK.due("mermaid(" + w[0] + ", " + w[1] + ")", hair.mermaid(w[0], w[1]), -100);
        }
    }

    private static void mirrors() {
        CHECK.about("swimming, month by month");
        SeaHair hair = CHECK.read("mermaid a 7 1 3 -3; mermaid b 9 0 1 -1; mermaid c 9 0 -1 1; mermaid d 4 8 0 2;");
        // x and y, then the steps, behind each of three months
        int[][][] due = {
            {{8, 2, -3, 3}, {5, 5, -3, 3}, {2, 8, -3, 3}},
            {{8, 1, -1, 1}, {7, 2, -1, 1}, {6, 3, -1, 1}},
            {{8, 1, -1, 1}, {7, 2, -1, 1}, {6, 3, -1, 1}},
            {{4, 8, 0, -2}, {4, 6, 0, -2}, {4, 4, 0, -2}},
        };
        for (int month = 0; month < 3; month++) {
            hair.months(1);
            for (int m = 0; m < 4; m++) {
                for (int what = 0; what < 4; what++) {
                    CHECK.due("month " + (month + 1) + ": mermaid(" + m + ", " + what + ")", hair.mermaid(m, what), due[m][month][what]);
                }
            }
        }
        hair = CHECK.read("mermaid a 9 0 3 -3;");
        hair.months(1);
        CHECK.due("12 is 6", hair.mermaid(0, 0), 6);
        CHECK.due("-3 is 3", hair.mermaid(0, 1), 3);
        hair.months(2);
        CHECK.due("0, not turned yet", hair.mermaid(0, 0), 0);
        CHECK.due("its step", hair.mermaid(0, 2), -3);
    }

    private static void people() {
        CHECK.about("promise 7");
        SeaHair hair = CHECK.read(TWO);
        int[][] due = {{3, 2, 4, 0, 2, 8, 6, 0, 2}, {8, 4, 9, 0, 9, 9, 10, 0, 1}, {2, 3, 2, 0, 0, 6, 3, 0, 1}};
        for (int p = 0; p < 3; p++) {
            for (int what = 0; what < 9; what++) {
                CHECK.due("person(" + p + ", " + what + ")", hair.person(p, what), due[p][what]);
            }
        }
        int[][] wrong = {{-1, 0}, {3, 0}, {0, -1}, {0, 9}, {Integer.MAX_VALUE, 0}, {Integer.MIN_VALUE, 0}};
        for (int[] w : wrong) {
            CHECK.due("person(" + w[0] + ", " + w[1] + ")", hair.person(w[0], w[1]), -100000);
        }
        hair.cut(1);
        CHECK.due("a cut STRAND is not worn: person(0, 8)", hair.person(0, 8), 1);
        CHECK.due("nor counted in wears: person(0, 6)", hair.person(0, 6), 5);
        CHECK.due("person(0, 4)", hair.person(0, 4), 5);
    }

    private static void strands() {
        CHECK.about("promise 8");
        SeaHair hair = CHECK.read(TWO);
        int[][] due = {{0, 0, 5, 0, 5, 57, 7}, {1, 0, 3, 0, 3, 37, 7}, {1, 2, 6, 0, 6, 66, 6}, {0, 1, 9, 0, 9, 95, 5}};
        for (int s = 0; s < 4; s++) {
            for (int what = 0; what < 7; what++) {
                CHECK.due("strand(" + s + ", " + what + ")", hair.strand(s, what), due[s][what]);
            }
        }
        int[][] wrong = {{-1, 0}, {4, 0}, {0, -1}, {0, 7}, {Integer.MAX_VALUE, 0}, {Integer.MIN_VALUE, 0}};
        for (int[] w : wrong) {
            CHECK.due("strand(" + w[0] + ", " + w[1] + ")", hair.strand(w[0], w[1]), -1);
        }
        hair.cut(0);
        CHECK.due("cut: strand(0, 3)", hair.strand(0, 3), 1);
        CHECK.due("cut: strand(0, 4)", hair.strand(0, 4), 0);
        CHECK.due("cut: strand(0, 5)", hair.strand(0, 5), 57);
        CHECK.due("cut: strand(0, 1)", hair.strand(0, 1), 0);
        hair = CHECK.read("mermaid m 3 3 1 0;person p 3 3 1;strand m p 4;pull=50;");
        CHECK.due("far 0: strand(0, 6)", hair.strand(0, 6), 0);
        CHECK.due("far 0: strand(0, 4)", hair.strand(0, 4), 0);
        hair.months(1);
        CHECK.due("far 1: strand(0, 4)", hair.strand(0, 4), 50);
        CHECK.due("far 1: person(0, 5)", hair.person(0, 5), 0);
        CHECK.due("far 1: person(0, 4)", hair.person(0, 4), 50);
    }

    private static void moons() {
        CHECK.about("the moon");
        SeaHair hair = CHECK.read("mermaid m 9 5 0 0;person p 4 3 90;strand m p 2;pull = moon + 10;price = moon;");
        for (int month = 0; month < 10; month++) {
            CHECK.due("count(4)", hair.count(4), month % 4);
            CHECK.due("PULL", hair.strand(0, 4), month % 4 + 10);
            CHECK.due("PRICE", hair.strand(0, 5), month % 4);
            hair.months(1);
        }
    }

    /** What a LAW of one VAR comes to for strand 1 of person 1 in month 5. */
    private static void var(String var, int pull, int stands, int price, int storm) {
        String law = " = " + var + " * 10 + 1;";
        SeaHair hair = CHECK.read("mermaid n 0 0 0 0;mermaid m 9 5 0 0;person o 7 7 70;person p 4 3 6;strand n o 9;strand m p 2;strand n p 8;"
            + "pier 9; pull = if month < 5 then 0 else " + var + " * 10 + 1; stands" + law + "price" + law
            + "storm = if month < 5 then 0 else " + var + " * 10 + 1;");
        hair.months(5);
        CHECK.due("PULL of " + var, hair.strand(1, 4), pull);
        CHECK.due("STANDS of " + var, hair.person(1, 6), stands);
        CHECK.due("PRICE of " + var, hair.strand(1, 5), price);
        CHECK.due("STORM of " + var, hair.person(1, 7), storm);
    }

    private static void lawVars() {
        CHECK.about("which VARS a LAW has");
        var("length", 21, 1, 21, 1);
        var("far", 51, 1, 51, 1);
        var("moon", 11, 11, 11, 11);
        var("month", 51, 51, 51, 51);
        var("weight", 61, 61, 1, 61);
        var("across", 1, 41, 1, 41);
        var("down", 1, 31, 1, 31);
        var("which", 11, 1, 11, 1);
        var("wears", 1, 21, 21, 21);
    }

    private static int price(String law) {
        return CHECK.read("mermaid m 9 5 0 0;person p 4 3 6;strand m p 7;price = " + law + ";").strand(0, 5);
    }

    private static void lawArithmetic() {
        CHECK.about("what a LAW comes to");
        String[] laws = {"1 + 2 * 3", "(1 + 2) * 3", "20 - 5 - 3", "100 / 5 / 2", "100 / (5 / 2)", "2 * 3 / 4 * 5",
            "7 / 2", "(0 - 7) / 2 + 10", "7 / (0 - 2) + 10", "length + far * 10", "9999", "0 - 1", "0", "999", "1000",
            "9999 * 9999 * 9999 / 9999 / 9999 * 0 + 5", "(9999 * 9999 * 43 - 9999 * 9999 * 43) + 8",
            "9999 * 9999 * 22 / 9999 / 9999 + 3", "1 / 0", "5 + 1 / (length - 7)", "0 * (1 / 0) + 9", "0 / 5 + 4", "((((((6))))))"};
        int[] due = {7, 9, 12, 10, 50, 5, 3, 7, 7, 57, 999, 0, 0, 999, 999, 5, 8, wrapped(), 0, 0, 0, 4, 6};
        for (int i = 0; i < laws.length; i++) {
            CHECK.due(laws[i], price(laws[i]), due[i]);
        }
        // -2147483648 by -1 is itself again, in 32 bits that wrap
        CHECK.due("2^31 wraps below 0", price("if 8192 * 8192 * 32 < 0 then 1 else 2"), 1);
        CHECK.due("its quotient by -1", price("if (8192 * 8192 * 32) / (0 - 1) < 0 then 3 else 4"), 3);
    }

    private static int wrapped() {
        int value = 9999 * 9999 * 22 / 9999 / 9999 + 3;
        return Math.max(0, Math.min(999, value));
    }

    private static void lawIfs() {
        CHECK.about("as much as may wait within one another");
        CHECK.due("deep", price("1+2*(1+2*(1+2*(1+2*(1+2*(1+2*(1+2*3))))))"), 511);
        CHECK.due("to the right", price("900-(800-(700-(600-(500-(400-300*2)))))"), 900);
        CHECK.due("long", price("1" + "+2*1".repeat(90)), 181);
        CHECK.due("399 TOKENS of a LAW", CHECK.read("storm=0" + "+1".repeat(198) + ";").count(0), 0);
        CHECK.about("ifs of a LAW");
        CHECK.due("holds", price("if 1 < 2 then 3 else 4"), 3);
        CHECK.due("alike", price("if 2 < 2 then 3 else 4"), 4);
        CHECK.due("more", price("if 3 < 2 then 3 else 4"), 4);
        CHECK.due("the first that holds", price("if 2 < 1 then 3 else if 1 < 2 then 4 else if 1 < 2 then 5 else 6"), 4);
        CHECK.due("none of four", price("if 1<1 then 3 else if 2<1 then 4 else if 3<1 then 5 else if 4<1 then 7 else 6"), 6);
        CHECK.due("the fourth", price("if 1<1 then 3 else if 2<1 then 4 else if 3<1 then 5 else if 0<1 then 7 else 6"), 7);
        CHECK.due("what is not looked at", price("if 1 < 2 then 3 else 1 / 0"), 3);
        CHECK.due("a then not looked at", price("if 2 < 1 then 1 / 0 else 8"), 8);
        CHECK.due("a later if not looked at", price("if 1 < 2 then 3 else if 1 / 0 < 1 then 4 else 5"), 3);
        CHECK.due("the left is looked at", price("if 1 / 0 < 1 then 4 else 5"), 0);
        CHECK.due("the right is looked at", price("if 9 < 1 / 0 then 4 else 5"), 0);
        CHECK.due("a then looked at", price("if 1 < 2 then 1 / 0 else 5"), 0);
    }

    private static void holding() {
        CHECK.about("what LAWS are held to");
        SeaHair high = CHECK.read("mermaid m 9 5 0 0;person p 4 3 6;strand m p 7;pull=100;stands=1000;price=1000;storm=101;");
        CHECK.due("PULL", high.strand(0, 4), 99);
        CHECK.due("STANDS", high.person(0, 6), 999);
        CHECK.due("PRICE", high.strand(0, 5), 999);
        CHECK.due("STORM", high.person(0, 7), 100);
        SeaHair low = CHECK.read("mermaid m 9 5 0 0;person p 4 3 6;strand m p 7;pull=0-1;stands=0-1;price=0-1;storm=0-1;");
        CHECK.due("PULL", low.strand(0, 4), 0);
        CHECK.due("STANDS", low.person(0, 6), 0);
        CHECK.due("PRICE", low.strand(0, 5), 0);
        CHECK.due("STORM", low.person(0, 7), 0);
        SeaHair untold = CHECK.read("mermaid m 9 5 0 0;person p 4 3 6;strand m p 7;");
        CHECK.due("PULL", untold.strand(0, 4), 7);
        CHECK.due("STANDS", untold.person(0, 6), 6);
        CHECK.due("PRICE", untold.strand(0, 5), 7);
        CHECK.due("STORM", untold.person(0, 7), 0);
    }

    private static void hands() {
        CHECK.about("promise 9");
        SeaHair hair = CHECK.read(TWO);
        CHECK.due("hand(2, 2), theirs", hair.hand(2, 2), false);
        CHECK.due("hand(4, 0)", hair.hand(4, 0), false);
        CHECK.due("hand(-1, 0)", hair.hand(-1, 0), false);
        CHECK.due("hand(0, 3)", hair.hand(0, 3), false);
        CHECK.due("hand(0, -1)", hair.hand(0, -1), false);
        CHECK.due("nothing was done", hair.count(9), 0);
        CHECK.due("hand(2, 0)", hair.hand(2, 0), true);
        CHECK.due("strand(2, 1)", hair.strand(2, 1), 0);
        CHECK.due("person(0, 8)", hair.person(0, 8), 3);
        CHECK.due("person(2, 8)", hair.person(2, 8), 0);
        CHECK.due("hand(2, 0) once more", hair.hand(2, 0), false);
        hair.cut(2);
        CHECK.due("hand(2, 1), cut", hair.hand(2, 1), false);
        CHECK.due("count(9)", hair.count(9), 2);

        hair = CHECK.read("mermaid m 5 9 0 0;person p 5 4 1;person q 1 1 50;strand m p 9;");
        hair.months(1);
        CHECK.due("p is OFF", hair.person(0, 3), 1);
        CHECK.due("from one who is OFF", hair.hand(0, 1), true);
        CHECK.due("to one who is OFF", hair.hand(0, 0), false);
        hair.die(0);
        CHECK.due("of a dead one", hair.strand(0, 4), 0);
    }

    private static void cuts() {
        CHECK.about("promise 10");
        SeaHair hair = CHECK.read(TWO);
        CHECK.due("cut(-1)", hair.cut(-1), false);
        CHECK.due("cut(4)", hair.cut(4), false);
        CHECK.due("cut(32)", hair.cut(32), false);
        CHECK.due("count(9)", hair.count(9), 0);
        CHECK.due("cut(3)", hair.cut(3), true);
        CHECK.due("cut(3) once more", hair.cut(3), false);
        CHECK.due("count(7)", hair.count(7), 8);
        CHECK.due("count(12)", hair.count(12), 57 + 37 + 66);
        CHECK.due("count(9)", hair.count(9), 1);
    }

    private static void deaths() {
        CHECK.about("promise 11");
        SeaHair hair = CHECK.read(TWO);
        CHECK.due("die(-1)", hair.die(-1), false);
        CHECK.due("die(2)", hair.die(2), false);
        CHECK.due("count(9)", hair.count(9), 0);
        CHECK.due("die(1)", hair.die(1), true);
        CHECK.due("die(1) once more", hair.die(1), false);
        CHECK.due("mermaid(1, 4)", hair.mermaid(1, 4), 0);
        CHECK.due("count(6)", hair.count(6), 2);
        CHECK.due("strand(1, 4)", hair.strand(1, 4), 0);
        CHECK.due("strand(0, 4)", hair.strand(0, 4), 5);
        CHECK.due("strand(1, 6)", hair.strand(1, 6), 7);
        hair.months(2);
        CHECK.due("she does not swim", hair.mermaid(1, 1), 9);
        CHECK.due("her step stays", hair.mermaid(1, 3), -2);
        CHECK.due("the other does", hair.mermaid(0, 0), 7);
        CHECK.due("count(9)", hair.count(9), 2);
    }

    private static void months() {
        CHECK.about("promise 12");
        SeaHair hair = CHECK.read(TWO);
        CHECK.due("months(-1)", hair.months(-1), -1);
        CHECK.due("months(61)", hair.months(61), -1);
        CHECK.due("months(0)", hair.months(0), 0);
        CHECK.due("count(9)", hair.count(9), 0);
        CHECK.due("months(1)", hair.months(1), 1);
        CHECK.due("down by 8 of 6", hair.person(0, 1), 3);
        CHECK.due("not across by 2 of 6", hair.person(0, 0), 3);
        CHECK.due("not by 9 of 10", hair.person(1, 1), 4);
        CHECK.due("down by 6 of 3", hair.person(2, 1), 4);
        CHECK.due("months(60)", hair.months(60), 61);
        CHECK.due("moon", hair.count(4), 1);
        CHECK.due("count(9)", hair.count(9), 2);

        CHECK.about("by more than STANDS, not by as much");
        hair = CHECK.read("mermaid m 0 0 0 0;person p 5 3 4;person q 5 3 5;strand m p 5;strand m q 5;");
        hair.months(1);
        CHECK.due("p goes to lesser X", hair.person(0, 0), 4);
        CHECK.due("p goes to lesser Y", hair.person(0, 1), 2);
        CHECK.due("q stays", hair.person(1, 0), 5);
        CHECK.due("q stays", hair.person(1, 1), 3);
        hair.months(60);
        CHECK.due("p is where she is across", hair.person(0, 0), 0);
        CHECK.due("and down", hair.person(0, 1), 0);
        CHECK.due("q stays", hair.person(1, 0), 5);

        CHECK.about("all by how it was as the month began");
        hair = CHECK.read("mermaid m 4 2 1 0;person p 5 2 1;strand m p 9;");
        hair.months(1);
        CHECK.due("p goes to where she was", hair.person(0, 0), 4);
        CHECK.due("she went on", hair.mermaid(0, 0), 5);
    }

    private static void offThePier() {
        CHECK.about("OFF the PIER");
        SeaHair hair = CHECK.read("mermaid m 5 9 0 0;person p 5 4 1;person q 2 5 99;person r 5 3 1;strand m p 9;strand m r 9;");
        CHECK.due("nobody is OFF as it begins, even below the PIER", hair.count(5), 0);
        CHECK.due("who would be moved", hair.count(13), 5);
        hair.months(1);
        CHECK.due("who went below, and who stood there", hair.count(5), 3);
        CHECK.due("p is in row 5", hair.person(0, 1), 5);
        CHECK.due("r is in row 4", hair.person(2, 1), 4);
        CHECK.due("p is not pulled", hair.person(0, 5), 0);
        CHECK.due("nor does it pull", hair.strand(0, 4), 0);
        CHECK.due("p still STANDS", hair.person(0, 6), 1);
        CHECK.due("who would be moved", hair.count(13), 4);
        hair.months(1);
        CHECK.due("all are OFF", hair.count(5), 7);
        hair.months(5);
        CHECK.due("who is OFF stays", hair.person(0, 1), 5);
        hair = CHECK.read("mermaid m 9 9 0 0;mermaid n 0 0 0 0;person a 4 4 50;person b 3 2 1;person c 6 3 1;person d 7 1 60;"
            + "strand n b 9;strand m c 9;strand m d 9;");
        CHECK.due("who would be moved", hair.count(13), 6);
        hair.months(1);
        int[][] due = {{4, 4}, {2, 1}, {7, 4}, {7, 1}};
        for (int p = 0; p < 4; p++) {
            CHECK.due("person(" + p + ", 0)", hair.person(p, 0), due[p][0]);
            CHECK.due("person(" + p + ", 1)", hair.person(p, 1), due[p][1]);
        }
        CHECK.due("who would be moved", hair.count(13), 6);
        hair.months(1);
        CHECK.due("c is OFF", hair.count(5), 4);
        hair = CHECK.read("mermaid m 5 9 0 0;person p 5 8 1;strand m p 9;pier 9;");
        hair.months(60);
        CHECK.due("none is below row 9", hair.count(5), 0);
        CHECK.due("she is reached", hair.person(0, 1), 9);
    }

    private static void storms() {
        CHECK.about("STORMS by LOT");
        for (int seed = 0; seed < 10000; seed += 1111) {
            SeaHair hair = CHECK.read("person a 0 0 1;person b 1 0 1;person c 2 0 1;person d 3 0 1;person e 4 0 1;person f 5 0 1;"
                + "storm = 6;seed " + seed + ";");
            int off = 0;
            for (int month = 0; month < 20; month++) {
                for (int p = 0; p < 6; p++) {
                    off |= Check.lot(seed, 16 * month + p) < 6 ? 1 << p : 0;
                }
                hair.months(1);
                CHECK.due("OFF behind month " + month + " of seed " + seed, hair.count(5), off);
            }
        }
        CHECK.about("STORM by where one was as the month began, and one goes all the same");
        SeaHair hair = CHECK.read("mermaid m 9 0 0 0;person p 3 0 1;strand m p 9;storm = if across < 4 then 100 else 0;");
        hair.months(1);
        CHECK.due("OFF", hair.person(0, 3), 1);
        CHECK.due("went", hair.person(0, 0), 4);
        CHECK.due("STORM where one is now", hair.person(0, 7), 0);
        hair = CHECK.read("mermaid m 9 0 0 0;person p 3 0 1;strand m p 9;storm = if 3 < across then 100 else 0;");
        hair.months(1);
        CHECK.due("not OFF", hair.person(0, 3), 0);
        CHECK.due("STORM where one is now", hair.person(0, 7), 100);
        hair.months(1);
        CHECK.due("OFF", hair.person(0, 3), 1);
    }

    private static void undos() {
        CHECK.about("promise 13");
        SeaHair hair = CHECK.read(TWO);
        CHECK.due("undo()", hair.undo(), false);
        hair.hand(2, 0);
        hair.cut(0);
        hair.die(1);
        hair.months(5);
        hair.months(0);
        CHECK.due("count(9)", hair.count(9), 4);
        CHECK.due("undo() of months", hair.undo(), true);
        CHECK.due("month", hair.count(3), 0);
        CHECK.due("she is back", hair.mermaid(0, 0), 9);
        CHECK.due("she is still dead", hair.count(6), 2);
        CHECK.due("undo() of die", hair.undo(), true);
        CHECK.due("alive", hair.count(6), 0);
        CHECK.due("undo() of cut", hair.undo(), true);
        CHECK.due("whole", hair.count(7), 0);
        CHECK.due("undo() of hand", hair.undo(), true);
        CHECK.due("theirs again", hair.strand(2, 1), 2);
        CHECK.due("undo()", hair.undo(), false);
        for (int i = 1; i <= 45; i++) {
            hair.months(1);
        }
        CHECK.due("count(9)", hair.count(9), 40);
        for (int i = 44; i >= 5; i--) {
            CHECK.due("undo()", hair.undo(), true);
            CHECK.due("month", hair.count(3), i);
        }
        CHECK.due("the last 40 alone", hair.undo(), false);
        CHECK.due("month", hair.count(3), 5);
    }

    private static void slots() {
        CHECK.about("promises 36 and 37");
        SeaHair hair = CHECK.read(TWO);
        CHECK.due("hold(-1)", hair.hold(-1), false);
        CHECK.due("hold(3)", hair.hold(3), false);
        CHECK.due("restore(-1)", hair.restore(-1), false);
        CHECK.due("restore(3)", hair.restore(3), false);
        CHECK.due("restore(0)", hair.restore(0), false);
        CHECK.due("hold(0)", hair.hold(0), true);
        hair.months(1);
        hair.hand(0, 1);
        CHECK.due("hold(2)", hair.hold(2), true);
        CHECK.due("count(11)", hair.count(11), 2);
        CHECK.due("count(9)", hair.count(9), 2);
        hair.tell(1, 1, 1, 1);
        hair.feed(1, 2, 3, 4, 5);
        hair.cut(0);
        hair.die(0);
        CHECK.due("restore(1)", hair.restore(1), false);
        CHECK.due("it can still be undone", hair.count(9), 4);
        CHECK.due("restore(2)", hair.restore(2), true);
        CHECK.due("month", hair.count(3), 1);
        CHECK.due("theirs", hair.strand(0, 1), 1);
        CHECK.due("alive, whole", hair.count(6) + hair.count(7), 0);
        CHECK.due("nothing can be undone", hair.undo(), false);
        CHECK.due("TOLD stays", hair.count(10), 1);
        CHECK.due("the tape stays", hair.count(8), 20);
        hair.months(1);
        CHECK.due("restore(0)", hair.restore(0), true);
        CHECK.due("month", hair.count(3), 0);
        CHECK.due("it goes on", hair.months(2), 2);
        CHECK.due("it stays there", hair.restore(2), true);
        CHECK.due("month", hair.count(3), 1);
        CHECK.due("a slot is held anew", hair.hold(0), true);
        hair.months(1);
        hair.restore(0);
        CHECK.due("month", hair.count(3), 1);
        CHECK.due("count(11)", hair.count(11), 2);
    }

    private static void counts() {
        CHECK.about("promise 38");
        SeaHair hair = CHECK.read(TWO);
        int[] due = {2, 3, 4, 0, 0, 0, 0, 0, 0, 0, 0, 0, 255, 5};
        for (int what = 0; what < due.length; what++) {
            CHECK.due("count(" + what + ")", hair.count(what), due[what]);
        }
        CHECK.due("count(-1)", hair.count(-1), -1);
        CHECK.due("count(14)", hair.count(14), -1);
        CHECK.due("count(min)", hair.count(Integer.MIN_VALUE), -1);
        hair.months(2);
        hair.die(0);
        hair.cut(1);
        hair.hold(1);
        hair.tell(0, 0, 0, 0);
        hair.feed(0, 0, 0, 0, 0);
        int[] later = {2, 3, 4, 2, 2, 4, 1, 2, 20, 3, 1, 1};
        for (int what = 0; what < later.length; what++) {
            CHECK.due("count(" + what + ")", hair.count(what), later[what]);
        }
    }
}
