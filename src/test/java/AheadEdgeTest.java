/**
 * The boundary cases of part III that look ahead, promises 14 to 17, 19, 21, 22, 24, 27, 29 and 30: how
 * many MONTHS and SEEDS, the first and the last month that is looked at, nobody, not, no such ones.
 */
final class AheadEdgeTest {
    private static final Check CHECK = new Check();
    private static final int[] NO_MONTHS = {-1, 61, 62, 100, -60, Integer.MIN_VALUE, Integer.MAX_VALUE};
    private static final int[] ODD = {-1, Integer.MIN_VALUE, Integer.MAX_VALUE, 32, -32, 64, 256};

    public static void main(String[] args) {
        then();
        thenStorms();
        swims();
        first();
        firstOfOneMonth();
        near();
        turns();
        again();
        passing();
        market();
        cutBest();
        give();
        giveToNobody();
        year();
        yearSeeds();
        eachOfSix();
        CHECK.end();
    }

    /** p goes to the right in each month from that one on. */
    private static String from(int month) {
        return "mermaid m 9 0 0 0;person p 0 0 1;strand m p 9;stands=if month<" + month + " then 999 else 0;";
    }

    private static void then() {
        CHECK.about("promise 14: IN n MONTHS (0 .. 60): what 0 .. 2; NONE: no such ones");
        for (int n : new int[] {0, 1, 30, 59, 60}) {
            SeaHair hair = CHECK.read(from(n));
            CHECK.due("not in " + n, hair.then(0, n, 0), 0);
            if (n < 60) {
                CHECK.due("in " + (n + 1), hair.then(0, n + 1, 0), 1);
            }
        }
        SeaHair hair = CHECK.read(from(59));
        for (int what = 0; what <= 2; what++) {
            for (int n : NO_MONTHS) {
                CHECK.due("then(0, " + n + ", " + what + ")", hair.then(0, n, what), -1);
            }
            CHECK.due("then(1, 0, " + what + ")", hair.then(1, 0, what), -1);
        }
        for (int odd : ODD) {
            CHECK.due("then(" + odd + ", 0, 0)", hair.then(odd, 0, 0), -1);
            CHECK.due("then(0, 0, " + odd + ")", hair.then(0, 0, odd), -1);
        }
        CHECK.due("then(0, 0, 3)", hair.then(0, 0, 3), -1);
        CHECK.due("then(0, 60, 2)", hair.then(0, 60, 2), 0);
        hair = CHECK.read("person p 7 5 1;");
        CHECK.due("below the PIER, in 0", hair.then(0, 0, 2), 0);
        CHECK.due("in 1", hair.then(0, 1, 2), 1);
        CHECK.due("X in 60", hair.then(0, 60, 0), 7);
    }

    /** Six who go by one X and one Y a month to her, each from a place of their own. */
    private static final String SIX = "mermaid m 9 9 0 0;person a 0 0 1;person b 3 1 1;person c 1 2 1;person d 4 3 1;person e 2 4 1;person f 5 0 1;"
        + "strand m a 9;strand m b 9;strand m c 9;strand m d 9;strand m e 9;strand m f 9;price=far;";

    private static void eachOfSix() {
        CHECK.about("each of six, from the first to the last");
        int[][] at = {{0, 0}, {3, 1}, {1, 2}, {4, 3}, {2, 4}, {5, 0}};
        SeaHair hair = CHECK.read(SIX);
        CHECK.due("who is OFF first", hair.first(1), 4);
        for (int p = 0; p < 6; p++) {
            int falls = 5 - at[p][1];
            for (int n = 0; n <= 6; n++) {
                int gone = Math.min(n, falls);
                CHECK.due("then(" + p + ", " + n + ", 0)", hair.then(p, n, 0), Math.min(9, at[p][0] + gone));
                CHECK.due("then(" + p + ", " + n + ", 1)", hair.then(p, n, 1), at[p][1] + gone);
                CHECK.due("then(" + p + ", " + n + ", 2)", hair.then(p, n, 2), n >= falls ? 1 : 0);
                CHECK.due("turns(" + p + ", " + n + ")", hair.turns(p, n), gone);
                CHECK.due("year(" + p + ", " + n + ", 7)", hair.year(p, n, 7), n >= falls ? 0 : 7);
            }
            int far = Math.max(9 - at[p][0], 9 - at[p][1]);
            CHECK.due("strand(" + p + ", 6)", hair.strand(p, 6), far);
            CHECK.due("strand(" + p + ", 5)", hair.strand(p, 5), far);
            CHECK.due("near(0, " + p + ", " + far + ")", hair.near(0, p, far), 0);
            CHECK.due("near(0, " + p + ", " + (far - 1) + ")", hair.near(0, p, far - 1), -2);
        }
        CHECK.due("market(0)", hair.market(0), 9 + 8 + 8 + 6 + 7 + 9);
        CHECK.due("market(1)", hair.market(1), 8 + 7 + 7 + 5 + 6 + 8);
        CHECK.due("market(2): e is OFF and goes no more", hair.market(2), 7 + 6 + 6 + 4 + 6 + 7);
    }

    private static void thenStorms() {
        CHECK.about("STORMS in IN n MONTHS and YEAR alone");
        String text = "mermaid m 9 0 0 0;person p 0 0 1;strand m p 9;price=far;storm=if month<2 then 0 else 100;";
        SeaHair hair = CHECK.read(text);
        CHECK.due("then(0, 2, 2)", hair.then(0, 2, 2), 0);
        CHECK.due("then(0, 3, 2)", hair.then(0, 3, 2), 1);
        CHECK.due("then(0, 60, 0)", hair.then(0, 60, 0), 3);
        CHECK.due("year(0, 2, 20)", hair.year(0, 2, 20), 20);
        CHECK.due("year(0, 3, 20)", hair.year(0, 3, 20), 0);
        CHECK.due("first(0)", hair.first(0), -2);
        CHECK.due("turns(0, 60)", hair.turns(0, 60), 9);
        CHECK.due("market(8)", hair.market(8), 1);
        CHECK.due("cutBest()", hair.cutBest(), -2);
        CHECK.due("give(0)", hair.give(0), -2);
        hair.months(3);
        CHECK.due("as it came", hair.person(0, 0), 3);
        CHECK.due("OFF", hair.person(0, 3), 1);
    }

    private static void swims() {
        CHECK.about("promise 15: IN n MONTHS (0 .. 60): what 0, 1; NONE: no such ones");
        SeaHair hair = CHECK.read("mermaid a 0 9 1 -1;mermaid b 4 5 -3 2;mermaid c 9 0 -2 3;mermaid d 3 3 0 0;");
        int[][] told = {{0, 9, 1, -1}, {4, 5, -3, 2}, {9, 0, -2, 3}, {3, 3, 0, 0}};
        for (int m = 0; m < 4; m++) {
            for (int n : new int[] {0, 1, 2, 9, 17, 18, 19, 36, 59, 60}) {
                CHECK.due("swims(" + m + ", " + n + ", 0)", hair.swims(m, n, 0), Check.swum(told[m][0], told[m][2], n));
                CHECK.due("swims(" + m + ", " + n + ", 1)", hair.swims(m, n, 1), Check.swum(told[m][1], told[m][3], n));
            }
            for (int n : NO_MONTHS) {
                CHECK.due("swims(" + m + ", " + n + ", 0)", hair.swims(m, n, 0), -1);
            }
        }
        for (int odd : ODD) {
            CHECK.due("swims(" + odd + ", 0, 0)", hair.swims(odd, 0, 0), -1);
            CHECK.due("swims(0, 0, " + odd + ")", hair.swims(0, 0, odd), -1);
        }
        CHECK.due("swims(4, 0, 0)", hair.swims(4, 0, 0), -1);
        CHECK.due("swims(3, 0, 2)", hair.swims(3, 0, 2), -1);
        hair.die(1);
        CHECK.due("a dead one stays", hair.swims(1, 60, 0), 4);
    }

    /** p, in the PIER's last row, goes below in the month of that number, from 0 on. */
    private static String falls(int month) {
        return "mermaid m 5 9 0 0;person o 1 1 1;person p 5 4 1;strand m p 9;stands=if month<" + month + " then 999 else 0;";
    }

    private static void first() {
        CHECK.about("promise 16: FIRST: behind how many MONTHS (1 .. 100); -2: nobody; NONE for others");
        int[] months = {0, 1, 50, 98, 99, 100, 101, 999};
        int[] due = {1, 2, 51, 99, 100, -2, -2, -2};
        for (int i = 0; i < months.length; i++) {
            SeaHair hair = CHECK.read(falls(months[i]));
            CHECK.due("first(0) of " + months[i], hair.first(0), due[i]);
            CHECK.due("first(1) of " + months[i], hair.first(1), due[i] < 0 ? -2 : 1);
        }
        SeaHair hair = CHECK.read(falls(100));
        hair.months(1);
        CHECK.due("a month later it is 100", hair.first(0), 100);
        for (int odd : ODD) {
            CHECK.due("first(" + odd + ")", hair.first(odd), -1);
        }
        CHECK.due("first(2)", hair.first(2), -1);
        hair = CHECK.read("person p 1 5 1;");
        CHECK.due("below the PIER", hair.first(0), 1);
        hair.months(1);
        CHECK.due("nobody more", hair.first(0), -2);
        CHECK.due("nobody more", hair.first(1), -2);
        CHECK.due("nobody at all", CHECK.read("mermaid m 1 1 1 1;").first(0), -2);
    }

    private static void firstOfOneMonth() {
        CHECK.about("who, of one month the first");
        String six = "person a 1 5 1;person b 1 5 1;person c 1 4 1;person d 1 5 1;person e 1 5 1;person f 1 5 1;";
        CHECK.due("the first of all", CHECK.read(six).first(1), 0);
        CHECK.due("the first of two", CHECK.read(six.replace("a 1 5", "a 1 4")).first(1), 1);
        SeaHair last = CHECK.read("person a 1 4 1;person b 1 4 1;person c 1 4 1;person d 1 4 1;person e 1 4 1;person f 1 5 1;");
        CHECK.due("the last of all", last.first(1), 5);
        SeaHair sooner = CHECK.read("mermaid m 1 9 0 0;person a 1 3 1;person b 1 4 1;strand m a 9;strand m b 9;");
        CHECK.due("who is sooner", sooner.first(1), 1);
        sooner.months(1);
        CHECK.due("who is OFF already is not meant", sooner.first(1), 0);
        CHECK.due("behind one", sooner.first(0), 1);
    }

    private static void near() {
        CHECK.about("promise 17: NEAR, d (0 .. 9), behind 0 .. 100 MONTHS (0: now); -2: not; NONE: no such ones");
        int[][] steps = {{0, 0}, {1, 0}, {0, -1}, {1, 1}, {2, -3}, {-3, 3}, {-1, 2}};
        for (int[] step : steps) {
            for (int x = 0; x <= 9; x += 3) {
                for (int y = 1; y <= 9; y += 4) {
                    SeaHair hair = CHECK.read("mermaid m " + x + " " + y + stepped(step[0]) + stepped(step[1]) + ";person p 2 7 1;");
                    for (int d = 0; d <= 9; d++) {
                        int due = -2;
                        for (int n = 100; n >= 0; n--) {
                            boolean is = Math.abs(Check.swum(x, step[0], n) - 2) <= d && Math.abs(Check.swum(y, step[1], n) - 7) <= d;
                            due = is ? n : due;
                        }
                        CHECK.due("near(0, 0, " + d + ") from " + x + ", " + y, hair.near(0, 0, d), due);
                    }
                }
            }
        }
        SeaHair hair = CHECK.read("mermaid m 9 9 0 0;person p 0 0 1;person q 9 9 1;");
        CHECK.due("9 apart, d 9", hair.near(0, 0, 9), 0);
        CHECK.due("9 apart, d 8", hair.near(0, 0, 8), -2);
        CHECK.due("at one place, d 0", hair.near(0, 1, 0), 0);
        CHECK.due("d 10", hair.near(0, 1, 10), -1);
        CHECK.due("near(1, 0, 0)", hair.near(1, 0, 0), -1);
        CHECK.due("near(0, 2, 0)", hair.near(0, 2, 0), -1);
        for (int odd : ODD) {
            CHECK.due("near(" + odd + ", 0, 0)", hair.near(odd, 0, 0), -1);
            CHECK.due("near(0, " + odd + ", 0)", hair.near(0, odd, 0), -1);
            CHECK.due("near(0, 0, " + odd + ")", hair.near(0, 0, odd), -1);
        }
        hair = CHECK.read("mermaid m 9 4 -1 0;person p 0 4 1;");
        CHECK.due("where a PERSON is now", hair.near(0, 0, 0), 9);
        hair.die(0);
        CHECK.due("a dead one comes no nearer", hair.near(0, 0, 8), -2);
        CHECK.due("but may be there", hair.near(0, 0, 9), 0);
    }

    private static String stepped(int step) {
        return step < 0 ? " -" + -step : " " + step;
    }

    private static void turns() {
        CHECK.about("promise 19: TURNS in n MONTHS (0 .. 60; OFF: no more); NONE: no such ones");
        for (int month : new int[] {0, 1, 58, 59, 60}) {
            SeaHair hair = CHECK.read(from(month));
            CHECK.due("turns(0, 0)", hair.turns(0, 0), 0);
            for (int n : new int[] {1, 2, 58, 59, 60}) {
                CHECK.due("turns(0, " + n + ") of " + month, hair.turns(0, n), Math.max(0, Math.min(9, n - month)));
            }
        }
        SeaHair hair = CHECK.read("mermaid m 5 9 0 0;person p 5 4 1;strand m p 9;");
        CHECK.due("the month in which one goes OFF counts", hair.turns(0, 1), 1);
        CHECK.due("OFF: no more", hair.turns(0, 60), 1);
        hair.months(1);
        CHECK.due("OFF already", hair.turns(0, 60), 0);
        for (int n : NO_MONTHS) {
            CHECK.due("turns(0, " + n + ")", hair.turns(0, n), -1);
        }
        for (int odd : ODD) {
            CHECK.due("turns(" + odd + ", 0)", hair.turns(odd, 0), -1);
        }
        CHECK.due("turns(1, 0)", hair.turns(1, 0), -1);
    }

    /** Behind how many months of 1 .. 36 the ring of 18 by X, and that by Y, and the way in both, are as now. */
    private static int againBy(int x, int stepX, int y, int stepY) {
        int[] state = {x, y, stepX, stepY};
        for (int n = 1; n <= 36; n++) {
            for (int i = 0; i < 2; i++) {
                int to = state[i] + state[i + 2];
                boolean turned = to < 0 || to > 9;
                state[i] = to < 0 ? -to : to > 9 ? 18 - to : to;
                state[i + 2] = turned ? -state[i + 2] : state[i + 2];
            }
            if (state[0] == x && state[1] == y && state[2] == stepX && state[3] == stepY) {
                return n;
            }
        }
        return -2;
    }

    private static void again() {
        CHECK.about("promise 21: AGAIN (dead: 1), behind 1 .. 36 MONTHS; -2: not; NONE: no such MERMAID");
        for (int x = 0; x <= 9; x++) {
            for (int step = -3; step <= 3; step++) {
                int y = (x * 7 + step + 3) % 10;
                int other = (x + step + 6) % 7 - 3;
                SeaHair hair = CHECK.read("mermaid a " + x + " 4" + stepped(step) + " 0;mermaid b 4 " + x + " 0" + stepped(step)
                    + ";mermaid c " + x + " " + y + stepped(step) + stepped(other) + ";");
                CHECK.due("X from " + x + " by " + step, hair.again(0), againBy(x, step, 4, 0));
                CHECK.due("Y from " + x + " by " + step, hair.again(1), againBy(4, 0, x, step));
                CHECK.due("both from " + x + ", " + y + " by " + step + ", " + other, hair.again(2), againBy(x, step, y, other));
            }
        }
        SeaHair hair = CHECK.read("mermaid a 4 4 0 0;mermaid b 4 4 1 0;mermaid c 9 4 -1 0;mermaid d 0 4 1 0;");
        CHECK.due("who does not swim: 1", hair.again(0), 1);
        CHECK.due("there and back", hair.again(1), 18);
        CHECK.due("at 9 she comes by the other way", hair.again(2), -2);
        CHECK.due("at 0, too", hair.again(3), -2);
        for (int m = 0; m < 4; m++) {
            hair.die(m);
            CHECK.due("dead: again(" + m + ")", hair.again(m), 1);
        }
        CHECK.due("again(4)", hair.again(4), -1);
        for (int odd : ODD) {
            CHECK.due("again(" + odd + ")", hair.again(odd), -1);
        }
    }

    private static void passing() {
        CHECK.about("promise 22: PASS, d (0 .. 9), behind 0 .. 100 MONTHS; -2: not; NONE: no such ones, one and the same");
        int[][] told = {{0, 9, 1, -1}, {9, 9, -1, 0}, {4, 5, 3, 2}, {3, 0, 0, 0}};
        SeaHair hair = CHECK.read("mermaid a 0 9 1 -1;mermaid b 9 9 -1 0;mermaid c 4 5 3 2;mermaid d 3 0 0 0;");
        for (int a = 0; a < 4; a++) {
            for (int b = 0; b < 4; b++) {
                for (int d = 0; d <= 9; d++) {
                    CHECK.due("passing(" + a + ", " + b + ", " + d + ")", hair.passing(a, b, d), a == b ? -1 : passBy(told[a], told[b], d));
                }
            }
        }
        CHECK.due("d 10", hair.passing(0, 1, 10), -1);
        CHECK.due("passing(0, 4, 0)", hair.passing(0, 4, 0), -1);
        CHECK.due("passing(4, 0, 0)", hair.passing(4, 0, 0), -1);
        CHECK.due("passing(4, 4, 0)", hair.passing(4, 4, 0), -1);
        for (int odd : ODD) {
            CHECK.due("passing(" + odd + ", 0, 0)", hair.passing(odd, 0, 0), -1);
            CHECK.due("passing(0, " + odd + ", 0)", hair.passing(0, odd, 0), -1);
            CHECK.due("passing(0, 1, " + odd + ")", hair.passing(0, 1, odd), -1);
        }
        hair = CHECK.read("mermaid a 0 0 0 0;mermaid b 9 9 0 0;mermaid c 9 9 0 0;");
        CHECK.due("9 apart, d 9", hair.passing(0, 1, 9), 0);
        CHECK.due("9 apart, d 8", hair.passing(0, 1, 8), -2);
        CHECK.due("at one place, d 0", hair.passing(1, 2, 0), 0);
    }

    private static int passBy(int[] a, int[] b, int d) {
        for (int n = 0; n <= 100; n++) {
            int x = Check.swum(a[0], a[2], n) - Check.swum(b[0], b[2], n);
            int y = Check.swum(a[1], a[3], n) - Check.swum(b[1], b[3], n);
            if (Math.max(Math.abs(x), Math.abs(y)) <= d) {
                return n;
            }
        }
        return -2;
    }

    private static void market() {
        CHECK.about("promise 24: MARKET in n MONTHS (0 .. 60); NONE: no such n");
        SeaHair hair = CHECK.read("mermaid m 9 0 0 0;person p 0 0 1;" + "strand m p 9;".repeat(8) + "price=if month<60 then month else 1000;");
        for (int n = 0; n <= 59; n++) {
            CHECK.due("market(" + n + ")", hair.market(n), 8 * n);
        }
        CHECK.due("market(60)", hair.market(60), 8 * 999);
        for (int n : NO_MONTHS) {
            CHECK.due("market(" + n + ")", hair.market(n), -1);
        }
        for (int s = 0; s < 8; s++) {
            hair.cut(s);
            CHECK.due("STRANDS not cut", hair.market(10), 10 * (7 - s));
        }
        CHECK.due("no STRANDS", CHECK.read("price=9;").market(60), 0);
    }

    /** p wears two; with both FIRST is behind 39 months, with one that pulls by 62 behind 100, by 61 nobody. */
    private static String two(String pull) {
        return "mermaid m 5 9 0 0;person p 5 4 1;strand m p 9;strand m p 9;stands=160-month;pull=" + pull + ";";
    }

    private static void cutBest() {
        CHECK.about("promise 27: FIRST latest (nobody: latest of all), later than now; of alike ones the first; -2: none");
        String[] pulls = {"61+which", "62-which", "61", "62", "62+which", "63-which", "99", "1"};
        int[] due = {1, 0, 0, 0, 1, 0, 0, -2};
        for (int i = 0; i < pulls.length; i++) {
            CHECK.due("cutBest() of " + pulls[i], CHECK.read(two(pulls[i])).cutBest(), due[i]);
        }
        CHECK.due("FIRST now", CHECK.read(two("62-which")).first(0), 39);
        SeaHair hair = CHECK.read(two("62-which"));
        hair.cut(0);
        CHECK.due("by 61 nobody", hair.first(0), -2);
        hair.undo();
        hair.cut(1);
        CHECK.due("by 62 behind 100", hair.first(0), 100);
        CHECK.due("the other one, then", hair.cutBest(), 0);
        hair.cut(0);
        CHECK.due("all are cut", hair.cutBest(), -2);
        hair = CHECK.read(two("99"));
        hair.cut(1);
        CHECK.due("with the other one cut already", hair.cutBest(), 0);
        hair = CHECK.read(two("99").replace("pull", "strand m p 9;pull"));
        hair.cut(0);
        CHECK.due("one that is cut is not meant", hair.cutBest(), 1);
        CHECK.about("not later than now");
        CHECK.due("below the PIER", CHECK.read("mermaid m 5 9 0 0;person p 5 5 1;strand m p 9;").cutBest(), -2);
        CHECK.due("another falls as early", CHECK.read("mermaid m 5 9 0 0;person p 5 4 1;person q 5 4 1;strand m p 9;strand m q 9;").cutBest(), -2);
        CHECK.due("no STRANDS", CHECK.read("person p 5 5 1;").cutBest(), -2);
        CHECK.due("the last of eight", CHECK.read("mermaid m 5 9 0 0;person p 5 3 1;person q 5 4 1;" + "strand m p 9;".repeat(7)
            + "strand m q 9;stands=8;pull=if which<7 then 4 else 9;").cutBest(), 7);
        CHECK.due("one month later is later", CHECK.read("mermaid m 5 9 0 0;person p 5 4 1;person q 5 3 1;strand m p 9;strand m q 9;").cutBest(), 0);
    }

    /** FIRST is behind 40 + the wearer's weight months: of 60 behind 100, of 61 nobody. */
    private static String given(int... weights) {
        StringBuilder text = new StringBuilder("mermaid m 5 9 0 0;");
        for (int i = 0; i < weights.length; i++) {
            text.append("person p").append((char) ('a' + i)).append(" 5 4 ").append(weights[i]).append(";");
        }
        return text + "strand m pa 9;pull=62;stands=100+weight-month;";
    }

    private static void give() {
        CHECK.about("promise 29: so that FIRST is latest, later than now; of alike ones the first; -2: to nobody");
        int[][] weights = {{1, 60, 61}, {1, 61, 60}, {1, 61, 61}, {1, 60, 60}, {1, 2, 3}, {1, 3, 2}, {1, 1, 1}, {2, 1, 1}, {61, 99, 99}, {1}, {60, 61},
            {1, 2, 3, 4, 5, 6}, {1, 6, 5, 4, 3, 2}, {1, 1, 1, 1, 1, 2}};
        int[] due = {2, 1, 1, 1, 2, 1, -2, -2, -2, -2, 1, 5, 1, 5};
        for (int i = 0; i < weights.length; i++) {
            CHECK.due("give(0), case " + i, CHECK.read(given(weights[i])).give(0), due[i]);
        }
        SeaHair hair = CHECK.read(given(1, 60, 61));
        CHECK.due("FIRST now", hair.first(0), 41);
        hair.hand(0, 1);
        CHECK.due("behind 100", hair.first(0), 100);
        CHECK.due("from there", hair.give(0), 2);
        hair.hand(0, 2);
        CHECK.due("nobody", hair.first(0), -2);
        CHECK.due("nothing is later", hair.give(0), -2);
        hair = CHECK.read("mermaid m 5 9 0 0;person q 5 0 99;person p 5 4 1;" + "strand m q 9;".repeat(7) + "strand m p 9;");
        CHECK.due("the last of eight, to the first", hair.give(7), 0);
        CHECK.due("the others help nobody", hair.give(6), -2);
        CHECK.about("promise 29: to who is held by it");
        for (int who = 1; who <= 5; who++) {
            // m draws that one below; n, above, draws who wears strand 0, who is heavy, not at all
            StringBuilder text = new StringBuilder("mermaid m 5 9 0 0;mermaid n 5 0 0 0;");
            for (int p = 0; p < 6; p++) {
                text.append("person p").append((char) ('a' + p)).append(p == who ? " 5 4 1;" : " 5 0 99;");
            }
            text.append("strand n pa 9;strand m p").append((char) ('a' + who)).append(" 9;");
            hair = CHECK.read(text.toString());
            CHECK.due("who falls", hair.first(1), who);
            CHECK.due("give(0) to " + who, hair.give(0), who);
        }
    }

    private static void giveToNobody() {
        CHECK.about("promise 29: -2: to nobody, it is cut; NONE: no such STRAND");
        SeaHair hair = CHECK.read(given(1, 60, 61));
        CHECK.due("give(1)", hair.give(1), -1);
        for (int odd : ODD) {
            CHECK.due("give(" + odd + ")", hair.give(odd), -1);
        }
        hair.cut(0);
        CHECK.due("it is cut", hair.give(0), -2);
        CHECK.due("no such one, still", hair.give(1), -1);
        CHECK.due("no STRANDS", CHECK.read("person p 1 1 1;").give(0), -1);
        hair = CHECK.read("mermaid m 5 9 0 0;person a 5 3 1;person o 5 5 99;strand m a 9;");
        hair.months(1);
        CHECK.due("who could hold it is OFF", hair.person(1, 3), 1);
        CHECK.due("to nobody", hair.give(0), -2);
    }

    private static void year() {
        CHECK.about("promise 30: s SEEDS (1 .. 20), n MONTHS (0 .. 60); NONE: no such ones");
        SeaHair hair = CHECK.read("person p 0 0 1;storm=if month<59 then 0 else 100;");
        for (int s = 1; s <= 20; s++) {
            CHECK.due("year(0, 0, " + s + ")", hair.year(0, 0, s), s);
            CHECK.due("year(0, 59, " + s + ")", hair.year(0, 59, s), s);
            CHECK.due("year(0, 60, " + s + ")", hair.year(0, 60, s), 0);
        }
        for (int s : new int[] {0, 21, -1, -20, 32, Integer.MIN_VALUE, Integer.MAX_VALUE}) {
            CHECK.due("year(0, 0, " + s + ")", hair.year(0, 0, s), -1);
        }
        for (int n : NO_MONTHS) {
            CHECK.due("year(0, " + n + ", 1)", hair.year(0, n, 1), -1);
        }
        for (int odd : ODD) {
            CHECK.due("year(" + odd + ", 0, 1)", hair.year(odd, 0, 1), -1);
        }
        CHECK.due("year(1, 0, 1)", hair.year(1, 0, 1), -1);
        hair.months(60);
        CHECK.due("OFF already", hair.year(0, 0, 20), 0);
    }

    private static void yearSeeds() {
        CHECK.about("promise 30: from the text's SEED on");
        for (int seed : new int[] {0, 1, 9980, 9981, 9998, 9999}) {
            SeaHair hair = CHECK.read("person o 0 0 1;person p 0 0 1;storm=20;seed " + seed + ";");
            for (int s = 1; s <= 20; s++) {
                int stood = 0;
                for (int more = 0; more < s; more++) {
                    boolean off = false;
                    for (int month = 0; month < 5; month++) {
                        off |= Check.lot(seed + more, 16 * month + 1) < 20;
                    }
                    stood += off ? 0 : 1;
                }
                CHECK.due("year(1, 5, " + s + ") of " + seed, hair.year(1, 5, s), stood);
            }
        }
    }
}
