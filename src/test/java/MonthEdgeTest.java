/**
 * The boundary cases of MONTHS, part II: where a MERMAID turns, how near and how strong a STRAND pulls,
 * how much is more than STANDS, the ends of the PIER, and a LOT that is just less than STORM.
 */
final class MonthEdgeTest {
    private static final Check CHECK = new Check();

    public static void main(String[] args) {
        turnsAt0And9();
        fourSwim();
        pullsNot();
        acrossAndDown();
        moreThanStands();
        heldTo0And9();
        belowThePier();
        lots();
        lessThanStorm();
        stormAlone();
        asItBegan();
        CHECK.end();
    }

    private static String step(int step) {
        return step < 0 ? "-" + -step : "" + step;
    }

    /** Whether she swims as told: up in the ring's first half, and at its top, not yet turned. */
    private static boolean upward(int from, int step, int months) {
        int ring = Math.floorMod(from + step * months, 18);
        boolean rises = ring > 0 && ring <= 9;
        return step > 0 ? rises : !(ring < 9 && ring >= 0);
    }

    private static void turnsAt0And9() {
        CHECK.about("below 0, it is as much above 0, above 9, as much below 9, and she swims the other way");
        for (int from = 0; from <= 9; from++) {
            for (int step = -3; step <= 3; step++) {
                SeaHair hair = CHECK.read("mermaid x " + from + " 4 " + step(step) + " 0;mermaid y 4 " + from + " 0 " + step(step) + ";");
                for (int month = 1; month <= 20; month++) {
                    hair.months(1);
                    int is = Check.swum(from, step, month);
                    CHECK.due("X from " + from + " by " + step, hair.mermaid(0, 0), is);
                    CHECK.due("Y from " + from + " by " + step, hair.mermaid(1, 1), is);
                    CHECK.due("the other one stays", hair.mermaid(0, 1) + hair.mermaid(1, 0), 8);
                    boolean same = step > 0 == upward(from, step, month);
                    int now = step == 0 ? 0 : same ? step : -step;
                    CHECK.due("step from " + from + " by " + step + ", month " + month, hair.mermaid(0, 2), now);
                    CHECK.due("step by Y", hair.mermaid(1, 3), now);
                }
            }
        }
        CHECK.about("just at 0 or 9 she has not turned");
        int[][] edges = {{6, 3, 9, 3}, {7, 3, 8, -3}, {8, 3, 7, -3}, {9, 3, 6, -3}, {3, -3, 0, -3}, {2, -3, 1, 3}, {1, -3, 2, 3},
            {0, -3, 3, 3}, {9, 1, 8, -1}, {8, 1, 9, 1}, {0, -1, 1, 1}, {1, -1, 0, -1}};
        for (int[] e : edges) {
            SeaHair hair = CHECK.read("mermaid m " + e[0] + " 0 " + step(e[1]) + " 0;");
            hair.months(1);
            CHECK.due("X from " + e[0] + " by " + e[1], hair.mermaid(0, 0), e[2]);
            CHECK.due("step from " + e[0] + " by " + e[1], hair.mermaid(0, 2), e[3]);
        }
    }

    private static void fourSwim() {
        CHECK.about("each MERMAID that is alive swims, of none to four");
        int[][] told = {{0, 9, 1, -3}, {9, 1, -2, 2}, {4, 5, 3, -1}, {7, 2, -1, 3}};
        for (int n = 1; n <= 4; n++) {
            StringBuilder text = new StringBuilder();
            for (int m = 0; m < n; m++) {
                text.append("mermaid m").append((char) ('a' + m)).append(" ").append(told[m][0]).append(" ").append(told[m][1]).append(" ")
                    .append(step(told[m][2])).append(" ").append(step(told[m][3])).append(";");
            }
            SeaHair hair = CHECK.read(text + "person p 2 3 1;person q 8 1 1;");
            hair.months(5);
            hair.die(n - 1);
            hair.months(6);
            for (int m = 0; m < n; m++) {
                int swum = m == n - 1 ? 5 : 11;
                CHECK.due("X of " + m + " of " + n, hair.mermaid(m, 0), Check.swum(told[m][0], told[m][2], swum));
                CHECK.due("Y of " + m + " of " + n, hair.mermaid(m, 1), Check.swum(told[m][1], told[m][3], swum));
            }
            CHECK.due("nobody else is moved", hair.person(0, 0) * 1000 + hair.person(0, 1) * 100 + hair.person(1, 0) * 10 + hair.person(1, 1), 2381);
        }
    }

    private static void pullsNot() {
        CHECK.about("PULL of one whose MERMAID is dead, that is cut, or who wears it is OFF, or far is 0: 0");
        String text = "mermaid m 5 9 0 0;mermaid n 5 9 0 0;person p 5 4 50;person q 5 3 1;strand m p 7;strand n p 7;strand m q 7;pull=60;";
        SeaHair hair = CHECK.read(text);
        CHECK.due("none of these", hair.strand(0, 4), 60);
        hair.die(1);
        CHECK.due("she is alive", hair.strand(0, 4), 60);
        CHECK.due("she is dead", hair.strand(1, 4), 0);
        hair.undo();
        hair.cut(1);
        CHECK.due("it is not cut", hair.strand(0, 4), 60);
        CHECK.due("it is cut", hair.strand(1, 4), 0);
        hair.undo();
        hair.months(1);
        CHECK.due("OFF", hair.strand(0, 4) + hair.strand(1, 4), 0);
        CHECK.due("not yet OFF", hair.strand(2, 4), 60);
        hair.undo();
        CHECK.due("as before", hair.person(0, 5), 120);
        for (int x = 0; x <= 9; x++) {
            for (int y = 0; y <= 9; y++) {
                int far = Math.max(Math.abs(x - 5), Math.abs(y - 5));
                hair = CHECK.read("mermaid m 5 5 0 0;person p " + x + " " + y + " 50;strand m p 7;pull=60+far;");
                CHECK.due("far of " + x + ", " + y, hair.strand(0, 6), far);
                CHECK.due("PULL of " + x + ", " + y, hair.strand(0, 4), far == 0 ? 0 : 60 + far);
            }
        }
        hair = CHECK.read("mermaid m 0 0 0 0;person p 9 9 50;strand m p 7;pull=60+far;");
        CHECK.due("far 9", hair.strand(0, 4), 69);
    }

    private static void acrossAndDown() {
        CHECK.about("across to her (X more or less; alike: not), and down likewise");
        for (int dx = -1; dx <= 1; dx++) {
            for (int dy = -1; dy <= 1; dy++) {
                SeaHair hair = CHECK.read("mermaid m " + (5 + dx) + " " + (5 + dy) + " 0 0;person p 5 5 3;strand m p 4;pier 9;");
                CHECK.due("across", hair.person(0, 4), 4 * dx);
                CHECK.due("down", hair.person(0, 5), 4 * dy);
                hair.months(1);
                CHECK.due("X", hair.person(0, 0), 5 + dx);
                CHECK.due("Y", hair.person(0, 1), 5 + dy);
            }
        }
    }

    private static void moreThanStands() {
        CHECK.about("goes one X that way if PULLED across by more than STANDS, one Y likewise");
        int[][] places = {{0, 5}, {9, 5}, {5, 0}, {5, 9}, {0, 0}, {9, 9}, {0, 9}, {9, 0}};
        for (int[] at : places) {
            for (int stands = 0; stands <= 9; stands++) {
                SeaHair hair = CHECK.read("mermaid m " + at[0] + " " + at[1] + " 0 0;person p 5 5 1;strand m p 5;pier 9;stands=" + stands + ";");
                boolean goes = stands < 5;
                CHECK.due("count(13) by " + stands, hair.count(13), goes ? 1 : 0);
                hair.months(1);
                CHECK.due("X by " + stands, hair.person(0, 0), goes ? 5 + Integer.signum(at[0] - 5) : 5);
                CHECK.due("Y by " + stands, hair.person(0, 1), goes ? 5 + Integer.signum(at[1] - 5) : 5);
            }
        }
        CHECK.about("PULLED by the sum");
        SeaHair hair = CHECK.read("mermaid e 9 5 0 0;mermaid w 0 5 0 0;person p 5 5 1;strand e p 9;strand w p 4;stands=5;pier 9;");
        CHECK.due("5 of 5", hair.count(13), 0);
        hair = CHECK.read("mermaid e 9 5 0 0;mermaid w 0 5 0 0;person p 5 5 1;strand e p 9;strand w p 3;stands=5;pier 9;");
        CHECK.due("6 of 5", hair.count(13), 1);
        hair = CHECK.read("mermaid e 9 9 0 0;person p 0 0 1;" + "strand e p 9;".repeat(8) + "pull=99;stands=792;pier 9;");
        CHECK.due("eight of 99", hair.person(0, 4), 792);
        CHECK.due("792 of 792", hair.count(13), 0);
        hair = CHECK.read("mermaid e 9 9 0 0;person p 0 0 1;" + "strand e p 9;".repeat(8) + "pull=99;stands=791;pier 9;");
        CHECK.due("792 of 791", hair.count(13), 1);
        hair = CHECK.read("person p 0 0 1;stands=0;");
        CHECK.due("0 of 0", hair.count(13), 0);
        for (int[] at : places) {
            hair = CHECK.read("mermaid m " + at[0] + " " + at[1] + " 0 0;person p 5 5 1;strand m p 1;pier 9;stands=0;");
            hair.months(1);
            CHECK.due("X by 1 of 0", hair.person(0, 0), 5 + Integer.signum(at[0] - 5));
            CHECK.due("Y by 1 of 0", hair.person(0, 1), 5 + Integer.signum(at[1] - 5));
        }
    }

    private static void heldTo0And9() {
        CHECK.about("X, Y held to 0 .. 9");
        for (int[] corner : new int[][] {{0, 0}, {9, 0}, {0, 9}, {9, 9}}) {
            SeaHair hair = CHECK.read("mermaid m " + corner[0] + " " + corner[1] + " 0 0;person p " + corner[0] + " " + corner[1]
                + " 1;person q " + Math.abs(corner[0] - 1) + " " + Math.abs(corner[1] - 1) + " 1;strand m p 9;strand m q 9;stands=0;pier 9;");
            hair.months(1);
            for (int p = 0; p < 2; p++) {
                CHECK.due("X of " + p, hair.person(p, 0), corner[0]);
                CHECK.due("Y of " + p, hair.person(p, 1), corner[1]);
            }
            hair.months(60);
            CHECK.due("she is there, and stays", hair.person(1, 0) + 10 * hair.person(1, 1), corner[0] + 10 * corner[1]);
        }
    }

    private static void belowThePier() {
        CHECK.about("who is in a row below the PIER then (a greater Y) is OFF");
        for (int pier = 0; pier <= 9; pier++) {
            for (int y = 0; y <= 9; y++) {
                SeaHair hair = CHECK.read("person p 5 " + y + " 1;pier " + pier + ";");
                CHECK.due("row " + y + " of " + pier + " as it begins", hair.person(0, 3), 0);
                hair.months(1);
                CHECK.due("row " + y + " of " + pier, hair.person(0, 3), y > pier ? 1 : 0);
            }
            if (pier < 9) {
                SeaHair hair = CHECK.read("mermaid m 5 9 0 0;person p 5 " + pier + " 1;strand m p 9;pier " + pier + ";");
                hair.months(1);
                CHECK.due("one row below " + pier, hair.person(0, 3), 1);
                CHECK.due("and there", hair.person(0, 1), pier + 1);
                hair.months(60);
                CHECK.due("who is OFF goes no more", hair.person(0, 1), pier + 1);
                CHECK.due("OFF is by what is then, not by what was", CHECK.read("mermaid m 5 0 0 0;person p 5 " + (pier + 1)
                    + " 1;strand m p 9;pier " + pier + ";").then(0, 1, 2), 0);
            }
        }
    }

    /** LOTS worked out apart from Java, with numbers of any size; 21 is person 5 of month 1, 949 that of month 59. */
    private static void lots() {
        CHECK.about("LOT n of a SEED and a which (32 bits that wrap, zeros come in)");
        int[] seeds = {0, 1, 135, 4999, 9999, 10018};
        int[] which = {0, 1, 5, 16, 21, 949};
        int[][] due = {{3, 92, 85, 50, 26, 0}, {97, 16, 53, 98, 36, 32}, {71, 65, 57, 40, 32, 56}, {95, 2, 54, 0, 1, 59}, {54, 75, 98, 86, 46, 57},
            {75, 14, 89, 86, 78, 90}};
        for (int i = 0; i < seeds.length; i++) {
            for (int k = 0; k < which.length; k++) {
                CHECK.due("LOT 100 of " + seeds[i] + ", " + which[k], Check.lot(seeds[i], which[k]), due[i][k]);
                // the last SEED that can be told is 9999; 10018 is the twentieth from there on
                int told = Math.min(9999, seeds[i]);
                int more = seeds[i] - told + 1;
                for (int storm = due[i][k]; storm <= due[i][k] + 1; storm++) {
                    SeaHair hair = CHECK.read("person a 0 0 1;person b 0 0 1;person c 0 0 1;person d 0 0 1;person e 0 0 1;person f 0 0 1;seed "
                        + told + ";storm=if month<" + which[k] / 16 + " then 0 else " + storm + ";");
                    int p = which[k] % 16;
                    int n = which[k] / 16 + 1;
                    int stands = hair.year(p, n, more) - (more > 1 ? hair.year(p, n, more - 1) : 0);
                    CHECK.due("SEED " + seeds[i] + ", which " + which[k] + ", STORM " + storm, stands, storm > due[i][k] ? 0 : 1);
                }
            }
        }
    }

    private static void lessThanStorm() {
        CHECK.about("OFF, too, if LOT 100 of the SEED and 16 * the month and their number is less than STORM");
        boolean[] lots = new boolean[101];
        for (int seed : new int[] {0, 1, 4999, 9999}) {
            for (int month = 0; month < 60; month++) {
                int p = month % 6;
                int lot = Check.lot(seed, 16 * month + p);
                lots[lot] = true;
                for (int storm = Math.max(0, lot - 1); storm <= Math.min(100, lot + 1); storm++) {
                    SeaHair hair = CHECK.read("person a 0 0 1;person b 0 0 1;person c 0 0 1;person d 0 0 1;person e 0 0 1;person f 0 0 1;"
                        + "storm=if month<" + month + " then 0 else " + storm + ";seed " + seed + ";");
                    hair.months(month);
                    CHECK.due("not OFF yet", hair.count(5), 0);
                    hair.months(1);
                    CHECK.due("LOT " + lot + ", STORM " + storm, hair.person(p, 3), lot < storm ? 1 : 0);
                }
            }
        }
        CHECK.due("a LOT of 0 was among them", lots[0], true);
        CHECK.due("and one of 99", lots[99], true);
        CHECK.due("none of 100", lots[100], false);
    }

    private static void stormAlone() {
        CHECK.about("STORM 0 drowns nobody, STORM 100 all");
        String six = "person a 0 0 1;person b 0 0 1;person c 0 0 1;person d 0 0 1;person e 0 0 1;person f 0 0 1;";
        for (int seed = 0; seed < 10000; seed += 303) {
            SeaHair none = CHECK.read(six + "storm=0;seed " + seed + ";");
            none.months(60);
            CHECK.due("STORM 0", none.count(5), 0);
            SeaHair all = CHECK.read(six + "storm=100;seed " + seed + ";");
            all.months(1);
            CHECK.due("STORM 100", all.count(5), 63);
        }
        SeaHair none = CHECK.read(six);
        none.months(60);
        CHECK.due("STORM not told", none.count(5), 0);
    }

    private static void asItBegan() {
        CHECK.about("a MONTH, all by how it was as it began");
        SeaHair hair = CHECK.read("mermaid m 9 0 0 0;person p 3 0 1;strand m p 9;storm=if across<4 then 100 else 0;");
        hair.months(1);
        CHECK.due("STORM by the X that was", hair.person(0, 3), 1);
        CHECK.due("who drowns goes all the same", hair.person(0, 0), 4);
        hair = CHECK.read("mermaid m 9 0 0 0;person p 4 0 1;strand m p 9;storm=if across<5 then 0 else 100;");
        hair.months(1);
        CHECK.due("not by the X that is", hair.person(0, 3), 0);
        hair = CHECK.read("mermaid m 4 0 1 0;person p 4 0 1;strand m p 9;");
        hair.months(1);
        CHECK.due("she was here", hair.person(0, 0), 4);
        hair.months(1);
        CHECK.due("she was there", hair.person(0, 0), 5);
        hair = CHECK.read("mermaid m 9 0 0 0;person p 0 0 1;strand m p 9;stands=if month<1 then 999 else 0;storm=if moon<2 then 0 else 100;");
        hair.months(1);
        CHECK.due("STANDS of month 0", hair.person(0, 0), 0);
        hair.months(1);
        CHECK.due("STANDS of month 1", hair.person(0, 0), 1);
        CHECK.due("STORM of moon 1", hair.person(0, 3), 0);
        hair.months(1);
        CHECK.due("STORM of moon 2", hair.person(0, 3), 1);
    }
}
