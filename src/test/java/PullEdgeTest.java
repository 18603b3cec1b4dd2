/**
 * The boundary cases of part III that are of this month, promises 18, 20, 23, 25, 26 and 28: courses and
 * sets that are just so, none and all of eight STRANDS, the PIER's first and last place, who is OFF.
 */
final class PullEdgeTest {
    private static final Check CHECK = new Check();
    private static final int[] ODD = {-1, Integer.MIN_VALUE, Integer.MAX_VALUE, 32, -32, 64, 256};

    public static void main(String[] args) {
        plaitCourses();
        plaitSets();
        plaitNone();
        strongest();
        even();
        nothing();
        nothingNone();
        safePlaces();
        safeNearest();
        safeOff();
        worth();
        eachOfSix();
        CHECK.end();
    }

    /** p, right in the middle of a 0 and a 9, wears all eight. */
    private static String eight(String pull) {
        return "mermaid m 9 9 0 0;mermaid n 0 0 0 0;person p 4 4 1;" + "strand m p 9;".repeat(8) + "pull=" + pull + ";";
    }

    private static void plaitCourses() {
        CHECK.about("promise 18: PLAIT (across, down -999 .. 999); NONE: no such ones");
        SeaHair hair = CHECK.read(eight("99"));
        int[] in = {-999, -998, 998, 999};
        int[] out = {-1000, -1001, 1000, 1001, Integer.MIN_VALUE, Integer.MAX_VALUE, 1 << 16};
        for (int what = 0; what <= 1; what++) {
            for (int course : in) {
                CHECK.due("plait(0, " + course + ", 0, " + what + ")", hair.plait(0, course, 0, what), -2);
                CHECK.due("plait(0, 0, " + course + ", " + what + ")", hair.plait(0, 0, course, what), -2);
                CHECK.due("plait(0, " + course + ", " + course + ", " + what + ")", hair.plait(0, course, course, what), -2);
            }
            for (int course : out) {
                CHECK.due("plait(0, " + course + ", 0, " + what + ")", hair.plait(0, course, 0, what), -1);
                CHECK.due("plait(0, 0, " + course + ", " + what + ")", hair.plait(0, 0, course, what), -1);
            }
        }
        for (int odd : ODD) {
            CHECK.due("plait(" + odd + ", 0, 0, 0)", hair.plait(odd, 0, 0, 0), -1);
            CHECK.due("plait(0, 0, 0, " + odd + ")", hair.plait(0, 0, 0, odd), -1);
        }
        CHECK.due("plait(1, 0, 0, 0)", hair.plait(1, 0, 0, 0), -1);
        CHECK.due("plait(0, 0, 0, 2)", hair.plait(0, 0, 0, 2), -1);
    }

    private static void plaitSets() {
        CHECK.about("promise 18: from no STRAND to all eight, of as many the set of least bits");
        SeaHair hair = CHECK.read(eight("99"));
        for (int n = 0; n <= 8; n++) {
            CHECK.due("of " + n + ", how many", hair.plait(0, 99 * n, 99 * n, 0), n);
            CHECK.due("of " + n + ", which", hair.plait(0, 99 * n, 99 * n, 1), (1 << n) - 1);
            CHECK.due("one more across", hair.plait(0, 99 * n + 1, 99 * n, 0), -2);
            CHECK.due("one less down", hair.plait(0, 99 * n, 99 * n - 1, 0), -2);
        }
        CHECK.due("nine of 99", hair.plait(0, 891, 891, 0), -2);
        CHECK.due("the other way", hair.plait(0, -99, -99, 0), -2);
        hair = CHECK.read(eight("which+1"));
        CHECK.due("8 by the last alone", hair.plait(0, 8, 8, 1), 128);
        CHECK.due("9 by 4 and 5", hair.plait(0, 9, 9, 1), 8 | 16);
        CHECK.due("36 by all", hair.plait(0, 36, 36, 1), 255);
        CHECK.due("35 by all but the first", hair.plait(0, 35, 35, 1), 254);
        hair = CHECK.read(eight("0"));
        CHECK.due("nothing by none, though all come to it", hair.plait(0, 0, 0, 0), 0);
        CHECK.due("nothing by none, bits", hair.plait(0, 0, 0, 1), 0);
        hair = CHECK.read("mermaid m 9 4 0 0;person p 4 4 1;person q 4 4 1;strand m q 3;strand m p 3;");
        CHECK.due("whoever wears them", hair.plait(0, 3, 0, 1), 1);
        CHECK.due("and both", hair.plait(1, 6, 0, 1), 3);
    }

    private static void plaitNone() {
        CHECK.about("promise 18: -2: none, they are OFF; STRANDS not cut");
        SeaHair hair = CHECK.read("person p 4 4 1;");
        CHECK.due("no STRANDS, course 0", hair.plait(0, 0, 0, 0), 0);
        CHECK.due("no STRANDS, course 1", hair.plait(0, 1, 0, 0), -2);
        CHECK.due("no STRANDS, bits", hair.plait(0, 0, 1, 1), -2);
        hair = CHECK.read(eight("9"));
        for (int s = 0; s < 8; s++) {
            CHECK.due("the first not cut", hair.plait(0, 9, 9, 1), 1 << s);
            CHECK.due("all not cut", hair.plait(0, 9 * (8 - s), 9 * (8 - s), 1), 256 - (1 << s));
            hair.cut(s);
        }
        CHECK.due("all are cut", hair.plait(0, 9, 9, 1), -2);
        CHECK.due("all are cut, course 0", hair.plait(0, 0, 0, 1), 0);
        hair = CHECK.read("mermaid m 9 5 0 0;person o 4 5 1;person p 4 4 1;strand m o 3;");
        hair.months(1);
        for (int what = 0; what <= 1; what++) {
            CHECK.due("OFF, course 0", hair.plait(0, 0, 0, what), -2);
            CHECK.due("OFF, course 999", hair.plait(0, 999, 0, what), -2);
            CHECK.due("OFF, course 1000", hair.plait(0, 1000, 0, what), -1);
        }
        CHECK.due("OFF, no such what", hair.plait(0, 0, 0, 2), -1);
        CHECK.due("what one wears who is OFF pulls another", hair.plait(1, 3, 3, 1), 1);
    }

    /** Six at places of their own, each of whom wears one of m's, and the last one of n's, too. */
    private static void eachOfSix() {
        CHECK.about("each of six, from the first to the last");
        int[][] at = {{0, 0}, {3, 1}, {1, 2}, {4, 3}, {2, 4}, {5, 0}};
        SeaHair hair = CHECK.read("mermaid m 9 9 0 0;mermaid n 5 4 0 0;person a 0 0 1;person b 3 1 1;person c 1 2 1;person d 4 3 1;person e 2 4 1;"
            + "person f 5 0 1;strand m a 9;strand m b 9;strand m c 9;strand m d 9;strand m e 9;strand m f 9;strand n f 9;pull=far*8;"
            + "stands=if across*10+down<40 then 99 else 0;");
        int moved = 0;
        for (int p = 0; p < 6; p++) {
            int pull = 8 * Math.max(9 - at[p][0], 9 - at[p][1]);
            CHECK.due("strongest(" + p + ", 0)", hair.strongest(p, 0), p);
            CHECK.due("strongest(" + p + ", 1)", hair.strongest(p, 1), pull);
            CHECK.due("plait(" + p + ", " + pull + ", .., 1) is by the first", hair.plait(p, pull, pull, 1), 1);
            CHECK.due("person(" + p + ", 4)", hair.person(p, 4), pull);
            CHECK.due("person(" + p + ", 5)", hair.person(p, 5), pull + (p == 5 ? 32 : 0));
            // who is in X 0 .. 3 stands 99; for d, in X 4, 3, 2 is the nearest; f would be drawn down by 72 and 32 at 3, 0
            moved |= at[p][0] < 4 ? 0 : 1 << p;
            int here = 10 * at[p][1] + at[p][0];
            CHECK.due("safe(" + p + ", 1)", hair.safe(p, 1), p == 3 ? 23 : p == 5 ? 13 : here);
        }
        CHECK.due("who would be moved", hair.count(13), moved);
    }

    private static void strongest() {
        CHECK.about("promise 20: STRONGEST, of alike ones the first; -2: they wear none that is not cut; NONE: no such ones");
        int[][] due = {{7, 8}, {0, 8}, {0, 99}, {0, 0}, {4, 9}};
        String[] pulls = {"which+1", "8-which", "100", "0", "if which<4 then 8 else 9"};
        for (int i = 0; i < pulls.length; i++) {
            SeaHair hair = CHECK.read(eight(pulls[i]));
            CHECK.due("which of " + pulls[i], hair.strongest(0, 0), due[i][0]);
            CHECK.due("how much of " + pulls[i], hair.strongest(0, 1), due[i][1]);
        }
        SeaHair hair = CHECK.read(eight("which+1"));
        for (int s = 7; s >= 0; s--) {
            CHECK.due("of " + (s + 1), hair.strongest(0, 0), s);
            CHECK.due("how much", hair.strongest(0, 1), s + 1);
            hair.cut(s);
        }
        for (int what = 0; what <= 1; what++) {
            CHECK.due("all are cut", hair.strongest(0, what), -2);
            CHECK.due("none is there", CHECK.read("person p 1 1 1;").strongest(0, what), -2);
            CHECK.due("no such PERSON", hair.strongest(1, what), -1);
        }
        for (int odd : ODD) {
            CHECK.due("strongest(" + odd + ", 0)", hair.strongest(odd, 0), -1);
            CHECK.due("strongest(0, " + odd + ")", hair.strongest(0, odd), -1);
        }
        CHECK.due("strongest(0, 2)", hair.strongest(0, 2), -1);
        hair = CHECK.read("mermaid m 4 4 0 0;person p 4 4 1;strand m p 9;");
        CHECK.due("far 0", hair.strongest(0, 0), 0);
        CHECK.due("by nothing", hair.strongest(0, 1), 0);
    }

    private static void even() {
        CHECK.about("promise 23: EVEN pairs, just against each other now, and do pull; NONE: no such PERSON");
        String sides = "mermaid e 9 4 0 0;mermaid w 0 4 0 0;mermaid s 4 9 0 0;mermaid h 4 4 0 0;person p 4 4 1;person q 4 4 1;";
        String[] worn = {"", "strand e p 3;", "strand e p 3;strand w p 3;", "strand e p 3;strand w p 4;", "strand e p 3;strand e p 3;",
            "strand e p 3;strand w q 3;", "strand e p 3;strand s p 3;", "strand h p 3;strand h p 3;",
            "strand e p 3;strand e p 3;strand e p 3;strand e p 3;strand w p 3;strand w p 3;strand w p 3;strand w p 3;",
            "strand e p 3;strand w p 3;strand w p 3;strand w p 3;strand w p 3;strand w p 3;strand w p 3;strand w p 3;"};
        int[] due = {0, 0, 1, 0, 0, 0, 0, 0, 16, 7};
        for (int i = 0; i < worn.length; i++) {
            CHECK.due("even(0) of " + worn[i], CHECK.read(sides + worn[i]).even(0), due[i]);
        }
        CHECK.due("alike, but by 0", CHECK.read(sides + worn[2] + "pull=0;").even(0), 0);
        CHECK.due("held to 99 on both sides", CHECK.read(sides + worn[3] + "pull=98+length;").even(0), 1);
        SeaHair hair = CHECK.read(sides + worn[8]);
        hair.cut(7);
        CHECK.due("not cut", hair.even(0), 12);
        hair.die(1);
        CHECK.due("she is dead", hair.even(0), 0);
        CHECK.due("even(2)", hair.even(2), -1);
        for (int odd : ODD) {
            CHECK.due("even(" + odd + ")", hair.even(odd), -1);
        }
        hair = CHECK.read("mermaid e 9 5 0 0;mermaid w 0 5 0 0;person p 4 5 1;strand e p 3;strand w p 3;");
        CHECK.due("below the PIER, not OFF yet", hair.even(0), 1);
        hair.months(1);
        CHECK.due("OFF", hair.even(0), 0);
        CHECK.due("across and down, against each other in both", CHECK.read("mermaid a 0 0 0 0;mermaid b 9 9 0 0;mermaid c 9 0 0 0;person p 4 4 1;"
            + "strand a p 3;strand b p 3;strand c p 3;").even(0), 1);
    }

    private static void nothing() {
        CHECK.about("promise 25: sets of one STRAND or more, not cut; the least set of fewest; NONE for others");
        SeaHair hair = CHECK.read(eight("0"));
        for (int left = 8; left >= 1; left--) {
            CHECK.due("all sets of " + left, hair.nothing(0, 0), (1 << left) - 1);
            CHECK.due("the least of them", hair.nothing(0, 1), 1 << 8 - left);
            hair.cut(8 - left);
        }
        CHECK.due("all are cut", hair.nothing(0, 0), 0);
        CHECK.due("all are cut", hair.nothing(0, 1), -2);
        CHECK.due("nothing(1, 0)", hair.nothing(1, 0), -1);
        CHECK.due("nothing(0, 2)", hair.nothing(0, 2), -1);
        for (int odd : ODD) {
            CHECK.due("nothing(" + odd + ", 0)", hair.nothing(odd, 0), -1);
            CHECK.due("nothing(0, " + odd + ")", hair.nothing(0, odd), -1);
        }
        String sides = "mermaid e 9 4 0 0;mermaid w 0 4 0 0;person p 4 4 1;person q 4 3 1;";
        hair = CHECK.read(sides + "strand e q 1;strand e q 5;strand w q 6;strand w q 2;strand e q 2;");
        // 2 against 2 (bits 3 and 4), 1 and 5 against 6 (0, 1, 2), and all five
        CHECK.due("how many, whoever wears them", hair.nothing(0, 0), 3);
        CHECK.due("the fewest", hair.nothing(0, 1), 8 | 16);
        CHECK.due("all pull q down", hair.nothing(1, 0), 0);
        CHECK.due("of as many the least bits", CHECK.read(sides + "strand e p 3;strand w p 3;strand e p 3;strand w p 3;").nothing(0, 1), 3);
        CHECK.due("one by itself", CHECK.read(sides + "strand e p 3;strand w p 3;strand e p 4;pull=length-length/4*4;").nothing(0, 1), 4);
    }

    private static void nothingNone() {
        CHECK.about("promise 25: what 0 how many sets (0: they are OFF), 1 the least of fewest (-2: none)");
        SeaHair hair = CHECK.read("person p 4 4 1;");
        CHECK.due("no STRANDS", hair.nothing(0, 0), 0);
        CHECK.due("no STRANDS", hair.nothing(0, 1), -2);
        hair = CHECK.read("mermaid m 4 9 0 0;mermaid n 4 0 0 0;person p 4 5 1;strand m p 3;strand n p 3;");
        CHECK.due("not OFF yet", hair.nothing(0, 0), 1);
        hair.months(1);
        CHECK.due("OFF", hair.nothing(0, 0), 0);
        CHECK.due("OFF", hair.nothing(0, 1), -2);
        CHECK.due("OFF, no such what", hair.nothing(0, 2), -1);
        CHECK.due("OFF, no such what", hair.nothing(0, -1), -1);
    }

    private static void safePlaces() {
        CHECK.about("promise 26: in how many places of the PIER's rows; NONE for others");
        for (int pier = 0; pier <= 9; pier++) {
            SeaHair all = CHECK.read("person p 0 0 1;pier " + pier + ";");
            CHECK.due("all of rows 0 .. " + pier, all.safe(0, 0), 10 * (pier + 1));
            SeaHair last = CHECK.read("mermaid m 9 " + pier + " 0 0;person p 0 0 1;strand m p 9;stands=0;pier " + pier + ";");
            CHECK.due("where she is alone", last.safe(0, 0), 1);
            CHECK.due("the last place", last.safe(0, 1), 10 * pier + 9);
            if (pier < 9) {
                SeaHair below = CHECK.read("mermaid m 9 " + (pier + 1) + " 0 0;person p 0 0 1;strand m p 9;stands=0;pier " + pier + ";");
                CHECK.due("she is below", below.safe(0, 0), 0);
                CHECK.due("none", below.safe(0, 1), -2);
            }
        }
        SeaHair hair = CHECK.read("mermaid m 0 0 0 0;person p 9 4 1;strand m p 9;stands=9;");
        CHECK.due("9 is not more than 9", hair.safe(0, 0), 50);
        hair = CHECK.read("mermaid m 0 0 0 0;person p 9 4 1;strand m p 9;stands=8;");
        CHECK.due("9 is more than 8", hair.safe(0, 0), 1);
        CHECK.due("the first place", hair.safe(0, 1), 0);
        CHECK.due("safe(1, 0)", hair.safe(1, 0), -1);
        CHECK.due("safe(0, 2)", hair.safe(0, 2), -1);
        for (int odd : ODD) {
            CHECK.due("safe(" + odd + ", 0)", hair.safe(odd, 0), -1);
            CHECK.due("safe(0, " + odd + ")", hair.safe(0, odd), -1);
        }
        CHECK.about("by STANDS there, and with all they wear now");
        CHECK.due("STANDS of columns 5 .. 9", CHECK.read("mermaid m 0 9 0 0;person p 0 0 1;strand m p 5;stands=across;").safe(0, 0), 25);
        CHECK.due("STANDS of rows 3, 4", CHECK.read("mermaid m 0 9 0 0;person p 0 0 1;strand m p 3;stands=down;").safe(0, 0), 20);
        CHECK.due("not what others wear", CHECK.read("mermaid m 0 9 0 0;person p 0 0 1;person q 0 0 1;strand m q 9;").safe(0, 0), 50);
    }

    private static void safeNearest() {
        CHECK.about("promise 26: the nearest (10 * Y + X), of alike ones the lowest Y, then the lowest X");
        for (int place = 0; place < 50; place += 7) {
            SeaHair hair = CHECK.read("person p " + place % 10 + " " + place / 10 + " 1;");
            CHECK.due("here", hair.safe(0, 1), place);
        }
        // below the PIER, not OFF yet: row 4 is five rows up, and all that are no farther by X are alike
        CHECK.due("row 4, its lowest X", CHECK.read("person p 5 9 1;").safe(0, 1), 40);
        CHECK.due("row 4, X 4 .. 9", CHECK.read("person p 9 9 1;").safe(0, 1), 44);
        CHECK.due("row 4, X 0", CHECK.read("person p 0 5 1;").safe(0, 1), 40);
        CHECK.due("row 4, X 3", CHECK.read("person p 4 5 1;").safe(0, 1), 43);
        String moved = "mermaid m 9 9 0 0;person p 4 2 1;strand m p 9;stands=if ";
        CHECK.due("5, 1 and 3, 3 alike: the lowest Y ahead of the lowest X", CHECK.read(moved + "((across-5)*(across-5)+(down-1)*(down-1))"
            + "*((across-3)*(across-3)+(down-3)*(down-3))<1 then 9 else 0;").safe(0, 1), 15);
        CHECK.due("columns 2 and 6 alike: row 0, X 2", CHECK.read(moved + "(across-2)*(across-2)*(across-6)*(across-6)<1 then 9 else 0;").safe(0, 1), 2);
        CHECK.due("rows 1 and 3 alike: row 1, X 3", CHECK.read(moved + "(down-1)*(down-1)*(down-3)*(down-3)<1 then 9 else 0;").safe(0, 1), 13);
    }

    private static void safeOff() {
        CHECK.about("promise 26: NONE for others; -3 (what 0 or 1): they are OFF");
        SeaHair hair = CHECK.read("person p 5 5 1;person q 5 4 1;");
        CHECK.due("below the PIER, not OFF yet", hair.safe(0, 0), 50);
        hair.months(1);
        CHECK.due("safe(0, 0)", hair.safe(0, 0), -3);
        CHECK.due("safe(0, 1)", hair.safe(0, 1), -3);
        CHECK.due("safe(0, 2)", hair.safe(0, 2), -1);
        CHECK.due("safe(0, -1)", hair.safe(0, -1), -1);
        CHECK.due("safe(1, 0)", hair.safe(1, 0), 50);
        CHECK.due("safe(2, 0)", hair.safe(2, 0), -1);
    }

    private static void worth() {
        CHECK.about("promise 28: WORTH; NONE: no such PERSON");
        SeaHair hair = CHECK.read("mermaid m 9 5 0 0;person p 4 4 1;person q 4 5 1;" + "strand m p 9;".repeat(8) + "price=1000;");
        CHECK.due("eight of 999", hair.worth(0), 7992);
        CHECK.due("none", hair.worth(1), 0);
        for (int s = 0; s < 8; s++) {
            hair.cut(s);
            CHECK.due("STRANDS not cut", hair.worth(0), 999 * (7 - s));
        }
        hair.undo();
        hair.hand(7, 1);
        CHECK.due("the last, of the other", hair.worth(1), 999);
        hair.months(1);
        CHECK.due("q is OFF", hair.person(1, 3), 1);
        CHECK.due("what is worn by who is OFF has its PRICE", hair.worth(1), 999);
        CHECK.due("worth(2)", hair.worth(2), -1);
        for (int odd : ODD) {
            CHECK.due("worth(" + odd + ")", hair.worth(odd), -1);
        }
    }
}
