/** The boundary cases of part IV and promises 31 to 35: 20 TOLD ones, KNOWN by 0 .. all of them, none left. */
final class ToldEdgeTest {
    private static final Check CHECK = new Check();
    private static final int LEAST = Integer.MIN_VALUE;
    private static final int MOST = Integer.MAX_VALUE;

    public static void main(String[] args) {
        places();
        twenty();
        forget();
        knownBy();
        justSo();
        surest();
        noneLeft();
        holdNext();
        holdNextOfAll();
        notOfATextsMermaids();
        CHECK.end();
    }

    private static void places() {
        CHECK.about("promise 31: X, Y 0 .. 9; across, down -1, 0, 1; NONE, and nothing happens: no such ones");
        for (int n = -3; n <= 12; n++) {
            boolean isPlace = n >= 0 && n <= 9;
            boolean isWay = n >= -1 && n <= 1;
            CHECK.due("tell(" + n + ", 0, 0, 0)", new SeaHair().tell(n, 0, 0, 0), isPlace ? 0 : -1);
            CHECK.due("tell(0, " + n + ", 0, 0)", new SeaHair().tell(0, n, 0, 0), isPlace ? 0 : -1);
            CHECK.due("tell(0, 0, " + n + ", 0)", new SeaHair().tell(0, 0, n, 0), isWay ? 0 : -1);
            CHECK.due("tell(0, 0, 0, " + n + ")", new SeaHair().tell(0, 0, 0, n), isWay ? 0 : -1);
        }
        SeaHair hair = new SeaHair();
        for (int odd : new int[] {LEAST, MOST, LEAST + 1, 256, -256, 1 << 16}) {
            CHECK.due("tell(" + odd + ", 0, 0, 0)", hair.tell(odd, 0, 0, 0), -1);
            CHECK.due("tell(0, " + odd + ", 0, 0)", hair.tell(0, odd, 0, 0), -1);
            CHECK.due("tell(0, 0, " + odd + ", 0)", hair.tell(0, 0, odd, 0), -1);
            CHECK.due("tell(0, 0, 0, " + odd + ")", hair.tell(0, 0, 0, odd), -1);
        }
        CHECK.due("count(10)", hair.count(10), 0);
        CHECK.due("the first that is right is number 0", hair.tell(9, 9, -1, -1), 0);
    }

    private static void twenty() {
        CHECK.about("promise 31: its number; NONE, and nothing happens: 20 are there");
        SeaHair hair = new SeaHair();
        for (int i = 0; i < 20; i++) {
            CHECK.due("tell, number " + i, hair.tell(i % 10, 0, i % 10 < 5 ? 1 : i % 10 > 5 ? -1 : 0, 1), i);
            CHECK.due("count(10)", hair.count(10), i + 1);
        }
        for (int i = 0; i < 3; i++) {
            CHECK.due("one more", hair.tell(0, 0, 0, 0), -1);
            CHECK.due("count(10)", hair.count(10), 20);
            CHECK.due("where(20)", hair.where(20), 9);
            CHECK.due("surest(20)", hair.surest(20), 15);
        }
        CHECK.due("where(21)", hair.where(21), -1);
        CHECK.due("forget()", hair.forget(), 20);
        CHECK.due("from 0 on again", hair.tell(0, 0, 0, 0), 0);
    }

    private static void forget() {
        CHECK.about("promise 32: how many there were");
        SeaHair hair = new SeaHair();
        CHECK.due("none", hair.forget(), 0);
        for (int n = 0; n <= 20; n++) {
            for (int i = 0; i < n; i++) {
                hair.tell(4, 4, 1, 1);
            }
            CHECK.due("forget() of " + n, hair.forget(), n);
            CHECK.due("all of them", hair.count(10), 0);
            CHECK.due("where(0)", hair.where(0), 100);
        }
        CHECK.due("none more", hair.forget(), 0);
    }

    private static void knownBy() {
        CHECK.about("KNOWN by k: the first k; NONE: no such k");
        for (int size = 0; size <= 10; size++) {
            SeaHair hair = new SeaHair();
            for (int i = 0; i < size; i++) {
                hair.tell(i % 10, i % 10, 1, 1);
            }
            for (int k = -2; k <= size + 2; k++) {
                boolean is = k >= 0 && k <= size;
                boolean left = is && k < 10;
                CHECK.due("where(" + k + ") of " + size, hair.where(k), is ? (10 - k) * (10 - k) : -1);
                CHECK.due("surest(" + k + ") of " + size, hair.surest(k), left ? 11 * k : is ? -2 : -1);
                CHECK.due("holdNext(" + k + ") of " + size + " is a place", hair.holdNext(k) >= 0, left);
                CHECK.due("holdNext(" + k + ") of " + size + " is NONE", hair.holdNext(k) == -1, !is);
            }
            for (int k : new int[] {LEAST, MOST, 20, 21, 32, -32, 256}) {
                CHECK.due("where(" + k + ")", hair.where(k), -1);
                CHECK.due("surest(" + k + ")", hair.surest(k), -1);
                CHECK.due("holdNext(" + k + ")", hair.holdNext(k), -1);
            }
        }
    }

    private static void justSo() {
        CHECK.about("WHERE: all that is KNOWN is so (X alike: not across; likewise Y)");
        for (int place = 0; place < 100; place += 3) {
            int x = place % 10;
            int y = place / 10;
            for (int across = -1; across <= 1; across++) {
                for (int down = -1; down <= 1; down++) {
                    SeaHair hair = new SeaHair();
                    hair.tell(x, y, across, down);
                    int columns = across < 0 ? x : across > 0 ? 9 - x : 1;
                    int rows = down < 0 ? y : down > 0 ? 9 - y : 1;
                    String told = " of " + x + ", " + y + ", " + across + ", " + down;
                    CHECK.due("where(1)" + told, hair.where(1), columns * rows);
                    int firstX = across < 0 ? 0 : across > 0 ? x + 1 : x;
                    int firstY = down < 0 ? 0 : down > 0 ? y + 1 : y;
                    CHECK.due("surest(1)" + told, hair.surest(1), columns * rows == 0 ? -2 : 10 * firstY + firstX);
                }
            }
        }
    }

    private static void surest() {
        CHECK.about("promise 34: the lowest Y, then the lowest X of them");
        SeaHair hair = new SeaHair();
        CHECK.due("of all", hair.surest(0), 0);
        for (int place = 0; place < 100; place++) {
            hair.tell(place % 10, place / 10, 0, 0);
            CHECK.due("of one", hair.surest(1), place);
            CHECK.due("one", hair.where(1), 1);
            hair.forget();
        }
        hair.tell(2, 7, 1, 1);
        CHECK.due("X 3 .. 9, Y 8, 9", hair.surest(1), 83);
    }

    private static void noneLeft() {
        CHECK.about("promises 34 and 35: -2: none is left");
        int[][] never = {{0, 0, -1, 0}, {0, 0, 0, -1}, {9, 9, 1, 0}, {9, 9, 0, 1}};
        for (int[] t : never) {
            SeaHair hair = new SeaHair();
            hair.tell(t[0], t[1], t[2], t[3]);
            CHECK.due("where(1)", hair.where(1), 0);
            CHECK.due("surest(1)", hair.surest(1), -2);
            CHECK.due("holdNext(1)", hair.holdNext(1), -2);
            CHECK.due("where(0)", hair.where(0), 100);
            CHECK.due("holdNext(0)", hair.holdNext(0), 44);
        }
        SeaHair hair = new SeaHair();
        hair.tell(4, 4, 0, 0);
        hair.tell(4, 4, 0, 1);
        CHECK.due("one left", hair.where(1), 1);
        CHECK.due("against each other", hair.where(2), 0);
        CHECK.due("surest(2)", hair.surest(2), -2);
        CHECK.due("holdNext(2)", hair.holdNext(2), -2);
        CHECK.due("holdNext(3)", hair.holdNext(3), -1);
    }

    private static void holdNext() {
        CHECK.about("promise 35: fewest are left, at worst; of alike ones the lowest Y, then the lowest X");
        SeaHair hair = new SeaHair();
        // by X 4 there are 4, 1 and 5 columns, by Y 4 as many rows: 25 at worst, as by 5
        CHECK.due("of all", hair.holdNext(0), 44);
        hair.tell(3, 3, 0, 0);
        CHECK.due("one is left anyhow: the first place", hair.holdNext(1), 0);
        hair.forget();
        hair.tell(7, 9, 1, 0);
        // X 8 and 9 of row 9: held at X 8 or at X 9 one is left, and by X below 8 both
        CHECK.due("two left", hair.where(1), 2);
        CHECK.due("two are told apart by X 8", hair.holdNext(1), 8);
        hair.forget();
        hair.tell(9, 7, 0, 1);
        CHECK.due("two are told apart by Y 8", hair.holdNext(1), 80);
        hair.forget();
        hair.tell(6, 9, 1, 0);
        CHECK.due("three by the middle", hair.holdNext(1), 8);
        hair.forget();
        hair.tell(6, 6, 1, 1);
        CHECK.due("nine by the middle", hair.holdNext(1), 88);
    }

    /** Each rectangle that can be left, against what is left at worst, counted place by place. */
    private static void holdNextOfAll() {
        CHECK.about("promise 35: of what can be left by one");
        for (int place = 0; place < 100; place += 11) {
            for (int across = -1; across <= 1; across++) {
                for (int down = -1; down <= 1; down++) {
                    SeaHair hair = new SeaHair();
                    int x = (place * 7 + 3) % 10;
                    int y = place / 10;
                    hair.tell(x, y, across, down);
                    CHECK.due("holdNext(1) of " + x + ", " + y + ", " + across + ", " + down, hair.holdNext(1), bestOf(x, y, across, down));
                }
            }
        }
    }

    private static int bestOf(int x, int y, int across, int down) {
        int best = -2;
        int fewest = 101;
        for (int held = 0; held < 100; held++) {
            int worst = 0;
            for (int a = -1; a <= 1; a++) {
                for (int d = -1; d <= 1; d++) {
                    int left = 0;
                    for (int her = 0; her < 100; her++) {
                        boolean open = Integer.compare(her % 10, x) == across && Integer.compare(her / 10, y) == down;
                        boolean told = Integer.compare(her % 10, held % 10) == a && Integer.compare(her / 10, held / 10) == d;
                        left += open && told ? 1 : 0;
                    }
                    worst = Math.max(worst, left);
                }
            }
            if (worst > 0 && worst < fewest) {
                fewest = worst;
                best = held;
            }
        }
        return best;
    }

    private static void notOfATextsMermaids() {
        CHECK.about("what is TOLD is of no text, and goes with the next one");
        SeaHair hair = CHECK.read("mermaid m 3 3 1 1;person p 1 1 1;strand m p 1;");
        CHECK.due("where(0)", hair.where(0), 100);
        hair.tell(1, 1, 1, 1);
        hair.months(7);
        hair.die(0);
        hair.undo();
        CHECK.due("where(1)", hair.where(1), 64);
        CHECK.due("count(10)", hair.count(10), 1);
        hair.read();
        CHECK.due("count(10)", hair.count(10), 0);
        CHECK.due("where(1)", hair.where(1), -1);
    }
}
