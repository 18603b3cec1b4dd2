/** Promises 18, 20, 23, 25, 26 and 28: what is so this month. */
final class PullTest {
    private static final Check CHECK = new Check();
    /** East 3, west 3, east 2, west 5, all worn by p, who is between; q wears nothing. */
    private static final String BETWEEN = "mermaid e 9 4 0 0;mermaid w 0 4 0 0;person p 4 4 5;person q 4 2 20;"
        + "strand e p 3;strand w p 3;strand e p 2;strand w p 5;";

    public static void main(String[] args) {
        plaits();
        plaitsByTheOne();
        strongest();
        even();
        nothing();
        safe();
        worth();
        CHECK.end();
    }

    private static void plaits() {
        CHECK.about("promise 18");
        SeaHair hair = CHECK.read(BETWEEN);
        int[][] due = {{0, 0, 0, 0}, {3, 0, 1, 1}, {-3, 0, 1, 2}, {5, 0, 2, 5}, {-5, 0, 1, 8}, {-8, 0, 2, 10}, {-2, 0, 2, 9},
            {2, 0, 1, 4}, {-3, 1, -2, -2}, {999, -999, -2, -2}, {-6, 0, 3, 14}};
        for (int[] d : due) {
            CHECK.due("plait(0, " + d[0] + ", " + d[1] + ", 0)", hair.plait(0, d[0], d[1], 0), d[2]);
            CHECK.due("plait(0, " + d[0] + ", " + d[1] + ", 1)", hair.plait(0, d[0], d[1], 1), d[3]);
        }
        int[][] wrong = {{-1, 0, 0, 0}, {2, 0, 0, 0}, {0, 1000, 0, 0}, {0, -1000, 0, 0}, {0, 0, 1000, 0}, {0, 0, -1000, 0},
            {0, 0, 0, -1}, {0, 0, 0, 2}, {0, Integer.MIN_VALUE, 0, 0}};
        for (int[] w : wrong) {
            CHECK.due("plait(" + w[0] + ", " + w[1] + ", " + w[2] + ", " + w[3] + ")", hair.plait(w[0], w[1], w[2], w[3]), -1);
        }
        hair.cut(2);
        CHECK.due("without the one that is cut", hair.plait(0, 2, 0, 0), -2);
        CHECK.due("nor in two", hair.plait(0, 5, 0, 0), -2);
        hair.die(0);
        CHECK.due("of a dead one", hair.plait(0, 3, 0, 0), -2);

        CHECK.about("of as many the least bits");
        hair = CHECK.read("mermaid e 9 4 0 0;person p 4 4 5;strand e p 1;strand e p 4;strand e p 2;strand e p 3;strand e p 5;");
        CHECK.due("5 by one", hair.plait(0, 5, 0, 1), 16);
        CHECK.due("6 by 4 and 2, not 1 and 5", hair.plait(0, 6, 0, 1), 6);
        CHECK.due("15 by all", hair.plait(0, 15, 0, 1), 31);
        CHECK.due("15 by all", hair.plait(0, 15, 0, 0), 5);
    }

    private static void plaitsByTheOne() {
        CHECK.about("PLAIT as were they worn by that one, there");
        SeaHair hair = CHECK.read(BETWEEN + "pull = length + weight + far;");
        // q, weight 20, at 4, 2: far 5 of e, 4 of w, both below
        CHECK.due("3 + 20 + 5", hair.plait(1, 28, 28, 1), 1);
        CHECK.due("3 + 20 + 4", hair.plait(1, -27, 27, 1), 2);
        CHECK.due("both", hair.plait(1, 1, 55, 1), 3);
        hair = CHECK.read("mermaid m 4 9 0 0;person p 4 4 1;person q 4 0 50;strand m p 7;");
        hair.months(1);
        CHECK.due("p is OFF", hair.plait(0, 0, 0, 0), -2);
        CHECK.due("p is OFF", hair.plait(0, 0, 0, 1), -2);
        CHECK.due("wrong all the same", hair.plait(0, 1000, 0, 1), -1);
        CHECK.due("what p wears, on q", hair.plait(1, 0, 7, 1), 1);
    }

    private static void strongest() {
        CHECK.about("promise 20");
        SeaHair hair = CHECK.read(BETWEEN);
        CHECK.due("strongest(0, 0)", hair.strongest(0, 0), 3);
        CHECK.due("strongest(0, 1)", hair.strongest(0, 1), 5);
        CHECK.due("strongest(1, 0)", hair.strongest(1, 0), -2);
        CHECK.due("strongest(1, 1)", hair.strongest(1, 1), -2);
        int[][] wrong = {{-1, 0}, {2, 0}, {0, -1}, {0, 2}, {1, 2}};
        for (int[] w : wrong) {
            CHECK.due("strongest(" + w[0] + ", " + w[1] + ")", hair.strongest(w[0], w[1]), -1);
        }
        hair.cut(3);
        CHECK.due("of alike ones the first", hair.strongest(0, 0), 0);
        hair.die(0);
        CHECK.due("a dead one's pulls not", hair.strongest(0, 0), 1);
        hair.die(1);
        CHECK.due("none pulls: the first", hair.strongest(0, 0), 0);
        CHECK.due("by nothing", hair.strongest(0, 1), 0);
        hair.cut(0);
        CHECK.due("not a cut one", hair.strongest(0, 0), 1);
        hair.cut(1);
        hair.cut(2);
        CHECK.due("all are cut", hair.strongest(0, 1), -2);
        hair = CHECK.read("mermaid m 9 0 0 0;mermaid n 0 9 0 0;person o 2 2 9;person p 4 3 9;person q 7 4 9;strand m p 1;strand n p 1;"
            + "strand m q 1;strand n q 1;pull = far * 10;");
        CHECK.due("far 6 to n", hair.strongest(1, 0), 1);
        CHECK.due("far 6 to n", hair.strongest(1, 1), 60);
        CHECK.due("far 7 to n", hair.strongest(2, 0), 3);
        CHECK.due("far 7 to n", hair.strongest(2, 1), 70);
        CHECK.due("o wears none", hair.strongest(0, 1), -2);
        hair = CHECK.read("mermaid m 4 9 0 0;person p 4 4 1;strand m p 7;");
        hair.months(1);
        CHECK.due("OFF, it pulls not", hair.strongest(0, 0), 0);
        CHECK.due("OFF, it pulls not", hair.strongest(0, 1), 0);
    }

    private static void even() {
        CHECK.about("promise 23");
        SeaHair hair = CHECK.read(BETWEEN);
        CHECK.due("even(0)", hair.even(0), 1);
        CHECK.due("even(1)", hair.even(1), 0);
        CHECK.due("even(-1)", hair.even(-1), -1);
        CHECK.due("even(2)", hair.even(2), -1);
        hair.hand(1, 1);
        CHECK.due("one is not theirs", hair.even(0), 0);
        hair.undo();
        hair.cut(0);
        CHECK.due("one is cut", hair.even(0), 0);
        hair = CHECK.read("mermaid a 0 0 0 0;mermaid b 9 9 0 0;mermaid c 9 0 0 0;mermaid d 4 4 0 0;person p 4 4 5;"
            + "strand a p 2;strand b p 2;strand c p 2;strand d p 2;strand b p 2;strand a p 2;");
        CHECK.due("two by two; c is not against any, d is here", hair.even(0), 4);
        hair = CHECK.read("mermaid a 0 0 0 0;mermaid b 9 9 0 0;person p 4 4 5;strand a p 2;strand b p 2;pull=0;");
        CHECK.due("none pulls", hair.even(0), 0);
    }

    private static void nothing() {
        CHECK.about("promise 25");
        SeaHair hair = CHECK.read(BETWEEN);
        CHECK.due("nothing(0, 0)", hair.nothing(0, 0), 2);
        CHECK.due("nothing(0, 1)", hair.nothing(0, 1), 3);
        CHECK.due("all pull q down", hair.nothing(1, 0), 0);
        CHECK.due("all pull q down", hair.nothing(1, 1), -2);
        int[][] wrong = {{-1, 0}, {2, 0}, {0, -1}, {0, 2}};
        for (int[] w : wrong) {
            CHECK.due("nothing(" + w[0] + ", " + w[1] + ")", hair.nothing(w[0], w[1]), -1);
        }
        hair.cut(1);
        CHECK.due("3 and 2 against 5", hair.nothing(0, 1), 13);
        hair.die(0);
        CHECK.due("sets of what pulls not", hair.nothing(0, 0), 3);
        CHECK.due("the least of them", hair.nothing(0, 1), 1);
        hair.die(1);
        CHECK.due("all sets of three", hair.nothing(0, 0), 7);
        hair = CHECK.read("mermaid m 4 9 0 0;mermaid n 4 0 0 0;person p 4 4 1;strand m p 7;strand n p 7;strand m p 7;");
        hair.months(1);
        CHECK.due("OFF", hair.nothing(0, 0), 0);
        CHECK.due("OFF", hair.nothing(0, 1), -2);
    }

    private static void safe() {
        CHECK.about("promise 26");
        // m pulls by 5 from anywhere but where she is, and p STANDS 4 but in column 8
        SeaHair hair = CHECK.read("mermaid m 1 1 0 0;person p 5 3 4;strand m p 5;stands = if across < 8 then weight else 9 - across;"
            + "pier 3;");
        CHECK.due("her place alone", hair.safe(0, 0), 1);
        CHECK.due("her place", hair.safe(0, 1), 11);
        hair = CHECK.read("mermaid m 1 1 0 0;person p 5 3 4;strand m p 5;stands = if across < 8 then weight else across;pier 3;");
        CHECK.due("with columns 8 and 9", hair.safe(0, 0), 9);
        CHECK.due("the nearest, of alike ones the lowest Y", hair.safe(0, 1), 8);
        CHECK.due("it did not go there", hair.person(0, 0), 5);
        int[][] wrong = {{-1, 0}, {1, 0}, {0, -1}, {0, 2}};
        for (int[] w : wrong) {
            CHECK.due("safe(" + w[0] + ", " + w[1] + ")", hair.safe(w[0], w[1]), -1);
        }
        hair = CHECK.read("mermaid m 9 9 0 0;person o 0 0 1;person p 3 2 9;person q 6 4 9;strand m p 3;strand m q 3;"
            + "stands = (across + down) / 3 * 9;");
        CHECK.due("nothing pulls o", hair.safe(0, 1), 0);
        CHECK.due("rows of 7, 8, 9, 10, 10", hair.safe(1, 0), 44);
        CHECK.due("here, for 5 by 3 is 1", hair.safe(1, 1), 23);
        CHECK.due("here", hair.safe(2, 1), 46);
        hair = CHECK.read("mermaid m 9 9 0 0;person o 0 0 1;person p 3 3 9;person q 6 4 9;strand m p 3;strand m q 3;"
            + "stands = (down / 2 - 1) * 9 - across + 4;");
        CHECK.due("row 4 is the nearest, its lowest X that is as near", hair.safe(1, 1), 42);
        hair = CHECK.read("mermaid m 4 0 0 0;person p 4 2 4;strand m p 5;stands = 0;pull = if far < 3 then 0 else 9;");
        CHECK.due("no farther than 2", hair.safe(0, 0), 15);
        CHECK.due("here", hair.safe(0, 1), 24);
        hair = CHECK.read("mermaid m 4 9 0 0;person p 4 4 1;strand m p 7;");
        CHECK.due("none", hair.safe(0, 0), 0);
        CHECK.due("none", hair.safe(0, 1), -2);
        hair.months(1);
        CHECK.due("OFF", hair.safe(0, 0), -3);
        CHECK.due("OFF", hair.safe(0, 1), -3);
        CHECK.due("OFF, no such what", hair.safe(0, 2), -1);
    }

    private static void worth() {
        CHECK.about("promise 28");
        SeaHair hair = CHECK.read(BETWEEN + "price = length * 10 + wears + which;");
        CHECK.due("worth(0)", hair.worth(0), 34 + 35 + 26 + 57);
        CHECK.due("worth(1)", hair.worth(1), 0);
        CHECK.due("worth(-1)", hair.worth(-1), -1);
        CHECK.due("worth(2)", hair.worth(2), -1);
        hair.cut(0);
        CHECK.due("without what is cut", hair.worth(0), 34 + 25 + 56);
        hair.hand(1, 1);
        CHECK.due("worth(1)", hair.worth(1), 32);
        CHECK.due("worth(0)", hair.worth(0), 24 + 55);
    }
}
