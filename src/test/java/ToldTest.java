/** Promises 31 to 35: where she is, by pulls that were felt at several places. */
final class ToldTest {
    private static final Check CHECK = new Check();

    public static void main(String[] args) {
        telling();
        wheres();
        next();
        CHECK.end();
    }

    private static void telling() {
        CHECK.about("promises 31 and 32");
        SeaHair hair = new SeaHair();
        int[][] wrong = {{-1, 0, 0, 0}, {10, 0, 0, 0}, {0, -1, 0, 0}, {0, 10, 0, 0}, {0, 0, -2, 0}, {0, 0, 2, 0}, {0, 0, 0, -2},
            {0, 0, 0, 2}, {Integer.MIN_VALUE, 0, 0, 0}, {0, Integer.MAX_VALUE, 0, 0}};
        for (int[] w : wrong) {
            CHECK.due("tell(" + w[0] + ", " + w[1] + ", " + w[2] + ", " + w[3] + ")", hair.tell(w[0], w[1], w[2], w[3]), -1);
        }
        CHECK.due("count(10)", hair.count(10), 0);
        CHECK.due("forget()", hair.forget(), 0);
        for (int i = 0; i < 20; i++) {
            CHECK.due("tell", hair.tell(9, 9, -1, -1), i);
        }
        CHECK.due("a 21st", hair.tell(9, 9, -1, -1), -1);
        CHECK.due("count(10)", hair.count(10), 20);
        CHECK.due("where(20)", hair.where(20), 81);
        CHECK.due("where(21)", hair.where(21), -1);
        CHECK.due("nothing to undo", hair.undo(), false);
        CHECK.due("forget()", hair.forget(), 20);
        CHECK.due("forget()", hair.forget(), 0);
        CHECK.due("where(1)", hair.where(1), -1);
        CHECK.due("tell", hair.tell(9, 9, -1, -1), 0);
    }

    private static void wheres() {
        CHECK.about("promises 33 and 34");
        SeaHair hair = new SeaHair();
        CHECK.due("where(0)", hair.where(0), 100);
        CHECK.due("surest(0)", hair.surest(0), 0);
        for (int k : new int[] {-1, 1, Integer.MIN_VALUE, Integer.MAX_VALUE}) {
            CHECK.due("where(" + k + ")", hair.where(k), -1);
            CHECK.due("surest(" + k + ")", hair.surest(k), -1);
            CHECK.due("holdNext(" + k + ")", hair.holdNext(k), -1);
        }
        hair.tell(3, 6, 1, -1);
        hair.tell(8, 2, -1, 1);
        hair.tell(5, 4, 0, 0);
        hair.tell(5, 4, 1, 0);
        hair.tell(0, 0, 1, 1);
        int[] left = {100, 36, 12, 1, 0, 0};
        int[] surest = {0, 4, 34, 45, -2, -2};
        for (int k = 0; k <= 5; k++) {
            CHECK.due("where(" + k + ")", hair.where(k), left[k]);
            CHECK.due("surest(" + k + ")", hair.surest(k), surest[k]);
        }
        CHECK.due("holdNext(4)", hair.holdNext(4), -2);
        CHECK.due("where(6)", hair.where(6), -1);
        hair.forget();
        hair.tell(0, 5, -1, 0);
        CHECK.due("nobody is at X below 0", hair.where(1), 0);
        hair.forget();
        hair.tell(9, 9, 0, 0);
        CHECK.due("the last place", hair.surest(1), 99);
    }

    private static void next() {
        CHECK.about("promise 35");
        SeaHair hair = new SeaHair();
        CHECK.due("holdNext(0)", hair.holdNext(0), 44);
        hair.tell(5, 5, 0, 0);
        CHECK.due("one is left anyhow", hair.holdNext(1), 0);
        hair.forget();
        // x 6 .. 9 of row 3: three parts of 1, 1 and 2 from x 7 on, in row 0, for she is below it anyhow
        hair.tell(5, 3, 1, 0);
        CHECK.due("where(1)", hair.where(1), 4);
        CHECK.due("holdNext(1)", hair.holdNext(1), 7);
        hair.forget();
        // x 6 .. 8, y 1 .. 3: nine parts of one by the middle
        hair.tell(5, 0, 1, 1);
        hair.tell(9, 4, -1, -1);
        CHECK.due("where(2)", hair.where(2), 9);
        CHECK.due("holdNext(2)", hair.holdNext(2), 27);
        CHECK.due("holdNext(0) still", hair.holdNext(0), 44);
    }
}
