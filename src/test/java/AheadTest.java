/** Promises 14 to 17, 19, 21, 22, 24, 27, 29 and 30: what would be. */
final class AheadTest {
    private static final Check CHECK = new Check();
    private static final int[] ODD = {-1, 61, 99, Integer.MIN_VALUE, Integer.MAX_VALUE};

    public static void main(String[] args) {
        thens();
        swims();
        first();
        near();
        turns();
        again();
        passing();
        market();
        cutBest();
        give();
        year();
        nothingHappens();
        CHECK.end();
    }

    /** p is drawn to m, a row a month, and OFF behind the third. */
    private static final String DOWN = "mermaid m 5 9 0 0;person p 5 2 3;person q 1 1 9;strand m p 4;";

    private static void thens() {
        CHECK.about("promise 14");
        SeaHair hair = CHECK.read("mermaid m 9 9 0 0;person p 5 2 3;strand m p 4;");
        int[][] due = {{5, 2, 0}, {6, 3, 0}, {7, 4, 0}, {8, 5, 1}, {8, 5, 1}};
        for (int n = 0; n < due.length; n++) {
            for (int what = 0; what < 3; what++) {
                CHECK.due("then(0, " + n + ", " + what + ")", hair.then(0, n, what), due[n][what]);
            }
        }
        CHECK.due("then(0, 60, 1)", hair.then(0, 60, 1), 5);
        for (int n : ODD) {
            CHECK.due("then(0, " + n + ", 0)", hair.then(0, n, 0), -1);
        }
        CHECK.due("then(1, 0, 0)", hair.then(1, 0, 0), -1);
        CHECK.due("then(-1, 0, 0)", hair.then(-1, 0, 0), -1);
        CHECK.due("then(0, 0, 3)", hair.then(0, 0, 3), -1);
        CHECK.due("then(0, 0, -1)", hair.then(0, 0, -1), -1);

        hair = CHECK.read("mermaid m 9 9 0 0;person o 1 1 50;person p 5 2 3;person q 6 1 3;strand m p 4;strand m q 4;");
        CHECK.due("then(1, 2, 0)", hair.then(1, 2, 0), 7);
        CHECK.due("then(1, 2, 1)", hair.then(1, 2, 1), 4);
        CHECK.due("then(2, 2, 0)", hair.then(2, 2, 0), 8);
        CHECK.due("then(2, 3, 1)", hair.then(2, 3, 1), 4);
        CHECK.due("then(1, 3, 2)", hair.then(1, 3, 2), 1);
        CHECK.due("then(2, 3, 2)", hair.then(2, 3, 2), 0);
        CHECK.due("turns(0, 9)", hair.turns(0, 9), 0);
        CHECK.due("turns(1, 9)", hair.turns(1, 9), 3);
        CHECK.due("turns(2, 9)", hair.turns(2, 9), 4);

        CHECK.about("IN n MONTHS there are STORMS, and it comes as it was told");
        hair = CHECK.read("person a 0 0 1;person b 1 0 1;person c 2 0 1;storm = 7;seed 77;");
        hair.months(3);
        for (int n = 0; n <= 30; n++) {
            for (int p = 0; p < 3; p++) {
                int told = hair.then(p, n, 2);
                hair.months(n);
                CHECK.due("then(" + p + ", " + n + ", 2)", told, hair.person(p, 3));
                if (n > 0) {
                    hair.undo();
                }
            }
        }
    }

    private static void swims() {
        CHECK.about("promise 15");
        SeaHair hair = CHECK.read("mermaid m 7 1 3 -2;mermaid n 0 0 1 1;");
        int[][] due = {{7, 1}, {8, 1}, {5, 3}, {2, 5}, {1, 7}, {4, 9}, {7, 7}};
        for (int n = 0; n < due.length; n++) {
            CHECK.due("swims(0, " + n + ", 0)", hair.swims(0, n, 0), due[n][0]);
            CHECK.due("swims(0, " + n + ", 1)", hair.swims(0, n, 1), due[n][1]);
        }
        CHECK.due("swims(1, 60, 0)", hair.swims(1, 60, 0), 6);
        for (int n : ODD) {
            CHECK.due("swims(0, " + n + ", 0)", hair.swims(0, n, 0), -1);
        }
        CHECK.due("swims(2, 0, 0)", hair.swims(2, 0, 0), -1);
        CHECK.due("swims(-1, 0, 0)", hair.swims(-1, 0, 0), -1);
        CHECK.due("swims(0, 0, 2)", hair.swims(0, 0, 2), -1);
        CHECK.due("swims(0, 0, -1)", hair.swims(0, 0, -1), -1);
        hair.die(0);
        CHECK.due("dead", hair.swims(0, 5, 0), 7);
    }

    private static void first() {
        CHECK.about("promise 16");
        SeaHair hair = CHECK.read(DOWN);
        CHECK.due("first(0)", hair.first(0), 3);
        CHECK.due("first(1)", hair.first(1), 0);
        CHECK.due("first(-1)", hair.first(-1), -1);
        CHECK.due("first(2)", hair.first(2), -1);
        hair.months(2);
        CHECK.due("first(0)", hair.first(0), 1);
        hair.months(1);
        CHECK.due("nobody more", hair.first(0), -2);
        CHECK.due("nobody more", hair.first(1), -2);

        CHECK.about("of one month the first; STORMS do not count");
        hair = CHECK.read("mermaid m 5 9 0 0;person o 1 1 9;person p 5 3 3;person q 6 3 3;person r 7 4 9;strand m q 4;strand m p 4;storm=100;");
        CHECK.due("first(0)", hair.first(0), 2);
        CHECK.due("first(1)", hair.first(1), 1);
        hair = CHECK.read("mermaid m 5 9 0 0;person p 5 4 9;strand m p 4;stands = 101 - month;pull = 3;storm=100;");
        CHECK.due("behind 100 months", hair.first(0), 100);
        hair = CHECK.read("mermaid m 5 9 0 0;person p 5 4 9;strand m p 4;stands = 102 - month;pull = 3;");
        CHECK.due("behind 101 months is not looked at", hair.first(0), -2);
        hair = CHECK.read("person p 5 5 9;");
        CHECK.due("who stands below the PIER", hair.first(0), 1);
    }

    private static void near() {
        CHECK.about("promise 17");
        SeaHair hair = CHECK.read("mermaid m 9 4 -1 0;person p 2 4 9;person q 2 7 9;strand m p 9;stands = 0;");
        int[] due = {7, 6, 5, 4, 3, 2, 1, 0, 0, 0};
        int[] dueOfQ = {-2, -2, -2, 4, 3, 2, 1, 0, 0, 0};
        for (int d = 0; d <= 9; d++) {
            CHECK.due("near(0, 0, " + d + ")", hair.near(0, 0, d), due[d]);
            CHECK.due("near(0, 1, " + d + ")", hair.near(0, 1, d), dueOfQ[d]);
        }
        int[][] wrong = {{-1, 0, 0}, {1, 0, 0}, {0, -1, 0}, {0, 2, 0}, {0, 0, -1}, {0, 0, 10}};
        for (int[] w : wrong) {
            CHECK.due("near(" + w[0] + ", " + w[1] + ", " + w[2] + ")", hair.near(w[0], w[1], w[2]), -1);
        }
        hair.die(0);
        CHECK.due("dead", hair.near(0, 0, 6), -2);
        CHECK.due("dead", hair.near(0, 0, 7), 0);
        // by X each 18 months, by Y each 6: together at last
        hair = CHECK.read("mermaid m 0 3 1 3;person p 0 0 9;");
        CHECK.due("near(0, 0, 0)", hair.near(0, 0, 0), -2);
        CHECK.due("near(0, 0, 1)", hair.near(0, 0, 1), 17);
    }

    private static void turns() {
        CHECK.about("promise 19");
        SeaHair hair = CHECK.read(DOWN + "storm = 100;");
        int[] due = {0, 1, 2, 3, 3, 3};
        for (int n = 0; n < due.length; n++) {
            CHECK.due("turns(0, " + n + ")", hair.turns(0, n), due[n]);
            CHECK.due("turns(1, " + n + ")", hair.turns(1, n), 0);
        }
        CHECK.due("turns(0, 60)", hair.turns(0, 60), 3);
        for (int n : ODD) {
            CHECK.due("turns(0, " + n + ")", hair.turns(0, n), -1);
        }
        CHECK.due("turns(2, 1)", hair.turns(2, 1), -1);
        CHECK.due("turns(-1, 1)", hair.turns(-1, 1), -1);
        hair = CHECK.read("mermaid m 9 4 0 0;person p 7 4 3;strand m p 4;");
        CHECK.due("until she is reached", hair.turns(0, 60), 2);
        hair = CHECK.read("mermaid m 9 1 0 0;person p 5 4 3;strand m p 4;");
        CHECK.due("a month counts once by both", hair.turns(0, 60), 4);
    }

    private static void again() {
        CHECK.about("promise 21");
        String[] steps = {"4 4 0 0", "4 0 1 0", "0 4 -1 0", "4 4 2 0", "4 4 3 0", "4 4 2 3", "4 4 1 3", "0 0 1 1", "9 0 1 0",
            "9 0 -1 0", "0 0 0 2", "0 0 -3 0"};
        int[] due = {1, 18, 18, 9, 6, 18, 18, -2, 18, -2, -2, 6};
        for (int i = 0; i < steps.length; i++) {
            CHECK.due("again(0) of " + steps[i], CHECK.read("mermaid m " + steps[i] + ";").again(0), due[i]);
        }
        SeaHair hair = CHECK.read("mermaid a 3 7 0 0;mermaid b 4 6 2 0;mermaid c 5 5 0 3;mermaid d 9 1 -1 1;");
        CHECK.due("again(0)", hair.again(0), 1);
        CHECK.due("again(1)", hair.again(1), 9);
        CHECK.due("again(2)", hair.again(2), 6);
        CHECK.due("again(3)", hair.again(3), -2);
        hair = CHECK.read("mermaid m 0 0 1 1;");
        CHECK.due("again(1)", hair.again(1), -1);
        CHECK.due("again(-1)", hair.again(-1), -1);
        hair.die(0);
        CHECK.due("dead", hair.again(0), 1);
    }

    private static void passing() {
        CHECK.about("promise 22");
        SeaHair hair = CHECK.read("mermaid m 9 4 -1 0;mermaid n 0 4 1 0;mermaid o 0 9 0 0;");
        int[] due = {-2, 4, 4, 3, 3, 2, 2, 1, 1, 0};
        for (int d = 0; d <= 9; d++) {
            CHECK.due("passing(0, 1, " + d + ")", hair.passing(0, 1, d), due[d]);
            CHECK.due("passing(1, 0, " + d + ")", hair.passing(1, 0, d), due[d]);
        }
        CHECK.due("passing(0, 2, 4)", hair.passing(0, 2, 4), -2);
        CHECK.due("passing(0, 2, 5)", hair.passing(0, 2, 5), 4);
        int[][] wrong = {{-1, 0, 0}, {3, 0, 0}, {0, -1, 0}, {0, 3, 0}, {0, 0, 3}, {0, 1, -1}, {0, 1, 10}};
        for (int[] w : wrong) {
            CHECK.due("passing(" + w[0] + ", " + w[1] + ", " + w[2] + ")", hair.passing(w[0], w[1], w[2]), -1);
        }
        hair.die(1);
        CHECK.due("one is dead", hair.passing(0, 1, 0), 9);
        hair.die(0);
        CHECK.due("both are dead", hair.passing(0, 1, 8), -2);
    }

    private static void market() {
        CHECK.about("promise 24");
        SeaHair hair = CHECK.read(DOWN + "strand m q 2;price = length * 10 + far + month * 100;storm=100;");
        CHECK.due("market(0)", hair.market(0), 47 + 28);
        CHECK.due("market(1)", hair.market(1), 146 + 128);
        CHECK.due("market(3)", hair.market(3), 344 + 328);
        CHECK.due("market(60)", hair.market(60), 999 * 2);
        for (int n : ODD) {
            CHECK.due("market(" + n + ")", hair.market(n), -1);
        }
        hair.cut(0);
        CHECK.due("market(1)", hair.market(1), 128);
    }

    private static void cutBest() {
        CHECK.about("promise 27");
        // p goes down by 8 of 3; without strand 1 by 4; without strand 2, too, not
        SeaHair hair = CHECK.read("mermaid m 5 9 0 0;person p 5 4 3;person q 1 3 3;strand m p 2;strand m p 4;strand m q 4;");
        CHECK.due("first(0)", hair.first(0), 1);
        CHECK.due("cutBest()", hair.cutBest(), 1);
        hair.cut(1);
        CHECK.due("first(0)", hair.first(0), 2);
        CHECK.due("nobody is the latest of all", hair.cutBest(), 2);
        hair.cut(2);
        CHECK.due("it can be no later", hair.cutBest(), -2);
        hair = CHECK.read("mermaid m 5 9 0 0;person p 5 4 3;person q 1 4 3;strand m p 4;strand m q 4;");
        CHECK.due("none is later than now", hair.cutBest(), -2);
        hair = CHECK.read("mermaid m 5 9 0 0;person p 5 4 3;strand m p 1;strand m p 2;strand m p 2;");
        CHECK.due("of alike ones the first", hair.cutBest(), 1);
        CHECK.due("new", new SeaHair().cutBest(), -2);
        hair = CHECK.read("mermaid m 5 9 0 0;person p 5 4 3;strand m p 4;");
        CHECK.due("strand 0", hair.cutBest(), 0);
        CHECK.due("to nobody", hair.give(0), -2);
    }

    private static void give() {
        CHECK.about("promise 29");
        SeaHair hair = CHECK.read("mermaid m 5 9 0 0;person p 5 4 3;person q 1 1 3;person r 5 2 99;person s 5 2 99;strand m p 4;strand m p 1;");
        CHECK.due("first(0)", hair.first(0), 1);
        CHECK.due("give(0)", hair.give(0), 2);
        CHECK.due("4 is still more than 3", hair.give(1), -2);
        CHECK.due("give(-1)", hair.give(-1), -1);
        CHECK.due("give(2)", hair.give(2), -1);
        hair.cut(0);
        CHECK.due("it is cut", hair.give(0), -2);
        hair = CHECK.read("mermaid m 5 9 0 0;person p 5 4 3;person q 1 1 3;strand m p 4;");
        CHECK.due("to q, who holds out longer", hair.give(0), 1);
        hair = CHECK.read("mermaid m 5 9 0 0;person p 5 1 8;person q 5 4 3;strand m p 1;strand m q 2;strand m q 2;");
        CHECK.due("to person 0", hair.give(1), 0);
        CHECK.due("to person 0", hair.give(2), 0);
        CHECK.due("not by strand 0", hair.give(0), -2);
        hair = CHECK.read("mermaid m 5 9 0 0;person r 1 5 99;person p 5 3 3;person q 1 1 9;strand m p 4;");
        CHECK.due("first(1)", hair.first(1), 0);
        CHECK.due("nobody holds r", hair.give(0), -2);
        hair.months(1);
        CHECK.due("r is OFF, to q", hair.give(0), 2);
        hair.hand(0, 2);
        CHECK.due("it can be no later", hair.give(0), -2);
    }

    private static void year() {
        CHECK.about("promise 30");
        SeaHair hair = CHECK.read("person a 0 0 1;person b 0 0 1;storm = 5;seed 9990;");
        for (int n = 0; n <= 60; n += 6) {
            for (int s = 1; s <= 20; s++) {
                int stood = 0;
                for (int seed = 9990; seed < 9990 + s; seed++) {
                    boolean off = false;
                    for (int month = 0; month < n; month++) {
                        off |= Check.lot(seed, 16 * month + 1) < 5;
                    }
                    stood += off ? 0 : 1;
                }
                CHECK.due("year(1, " + n + ", " + s + ")", hair.year(1, n, s), stood);
            }
        }
        int[][] wrong = {{-1, 1, 1}, {2, 1, 1}, {0, -1, 1}, {0, 61, 1}, {0, 1, 0}, {0, 1, -1}, {0, 1, 21}};
        for (int[] w : wrong) {
            CHECK.due("year(" + w[0] + ", " + w[1] + ", " + w[2] + ")", hair.year(w[0], w[1], w[2]), -1);
        }
        hair = CHECK.read(DOWN);
        CHECK.due("without STORMS", hair.year(0, 2, 20), 20);
        CHECK.due("OFF by pull", hair.year(0, 3, 20), 0);
        CHECK.due("not OFF", hair.year(1, 60, 7), 7);
        hair.months(3);
        CHECK.due("OFF already", hair.year(0, 0, 20), 0);
    }

    /** All that is asked changes nothing, and the same is answered again. */
    private static void nothingHappens() {
        CHECK.about("nothing happens");
        SeaHair hair = CHECK.read("mermaid m 5 9 1 -2;mermaid n 0 9 3 -1;person p 5 2 3;person q 1 1 9;strand m p 4;strand n q 9;"
            + "storm = 8;seed 4;price = length * far;");
        hair.months(2);
        int[] before = state(hair);
        for (int times = 0; times < 2; times++) {
            hair.then(0, 60, 0);
            hair.swims(0, 59, 0);
            hair.first(0);
            hair.near(0, 0, 0);
            hair.plait(0, 4, 4, 0);
            hair.turns(0, 60);
            hair.strongest(0, 0);
            hair.again(0);
            hair.passing(0, 1, 0);
            hair.even(0);
            hair.market(60);
            hair.nothing(0, 1);
            hair.safe(0, 1);
            hair.cutBest();
            hair.worth(0);
            hair.give(0);
            hair.year(0, 60, 20);
            int[] after = state(hair);
            for (int i = 0; i < before.length; i++) {
                CHECK.due("state " + i, after[i], before[i]);
            }
        }
    }

    private static int[] state(SeaHair hair) {
        int[] state = new int[60];
        int at = 0;
        for (int what = 0; what <= 13; what++) {
            state[at++] = hair.count(what);
        }
        for (int i = 0; i < 2; i++) {
            for (int what = 0; what <= 8; what++) {
                state[at++] = hair.person(i, what);
            }
            for (int what = 0; what <= 4; what++) {
                state[at++] = hair.mermaid(i, what);
            }
            for (int what = 0; what <= 6; what++) {
                state[at++] = hair.strand(i, what);
            }
        }
        return state;
    }
}
