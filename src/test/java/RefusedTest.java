import java.util.function.Supplier;

/**
 * Each call that is refused, and each that only asks: of two objects with the same calls behind them
 * one is asked, and both answer alike from then on, of all that can be undone, is held, TOLD or on the
 * tape, too.
 */
final class RefusedTest {
    private static final Check CHECK = new Check();
    private static final int LEAST = Integer.MIN_VALUE;
    private static final int MOST = Integer.MAX_VALUE;
    private static final int[] ODD = {LEAST, -33, -1, MOST, 64, 1 << 20};

    interface Ask {
        int of(SeaHair hair);
    }

    public static void main(String[] args) {
        Midway.check(CHECK);
        tape();
        hands();
        cuts();
        deaths();
        months();
        undo();
        tells();
        slots();
        ones();
        ahead();
        thisMonth();
        where();
        onANewObject();
        CHECK.end();
    }

    private static int bit(boolean is) {
        return is ? 1 : 0;
    }

    private static void refused(String call, Supplier<SeaHair> made, int due, Ask ask) {
        SeaHair asked = made.get();
        CHECK.due(call, ask.of(asked), due);
        CHECK.same(call, asked, made.get());
    }

    private static void refused(String call, int due, Ask ask) {
        refused(call, Midway::make, due, ask);
    }

    /** Whatever is answered, nothing happens. */
    private static void asks(String call, Ask ask) {
        SeaHair asked = Midway.make();
        ask.of(asked);
        CHECK.same(call, asked, Midway.make());
    }

    private static SeaHair full() {
        SeaHair hair = Midway.make();
        Check.put(hair, "er 4;".repeat(1) + " ".repeat(1971));
        return hair;
    }

    private static void tape() {
        CHECK.about("promise 2: NONE, and nothing comes");
        CHECK.due("a tape of 1,986", full().count(8), 1986);
        refused("feed", RefusedTest::full, -1, h -> h.feed(0x3f3f3f3f, 0x3f3f3f3f, 0x3f3f3f3f, 0x3f3f3f3f, 0x3f3f3f3f));
        CHECK.about("promise 3: NONE, and nothing goes");
        for (int n : new int[] {Midway.BYTES + 1, -1, LEAST, MOST, 2000}) {
            refused("back(" + n + ")", -1, h -> h.back(n));
        }
        refused("back(0)", Midway.BYTES, h -> h.back(0));
        refused("place()", -1, SeaHair::place);
    }

    private static void hands() {
        CHECK.about("promise 9: false, and nothing happens: cut, it is theirs, that one is OFF, no such ones");
        refused("cut", 0, h -> bit(h.hand(Midway.CUT, 2)));
        refused("cut, and theirs", 0, h -> bit(h.hand(Midway.CUT, 0)));
        refused("theirs", 0, h -> bit(h.hand(0, 0)));
        refused("OFF", 0, h -> bit(h.hand(0, Midway.OFF)));
        refused("OFF, and theirs", 0, h -> bit(h.hand(1, Midway.OFF)));
        refused("no such STRAND", 0, h -> bit(h.hand(Midway.STRANDS, 0)));
        refused("no such PERSON", 0, h -> bit(h.hand(0, Midway.PEOPLE)));
        for (int odd : ODD) {
            refused("hand(" + odd + ", 0)", 0, h -> bit(h.hand(odd, 0)));
            refused("hand(0, " + odd + ")", 0, h -> bit(h.hand(0, odd)));
        }
    }

    private static void cuts() {
        CHECK.about("promise 10: false, and nothing happens: it is, no such one");
        refused("it is", 0, h -> bit(h.cut(Midway.CUT)));
        refused("no such one", 0, h -> bit(h.cut(Midway.STRANDS)));
        for (int odd : ODD) {
            refused("cut(" + odd + ")", 0, h -> bit(h.cut(odd)));
        }
    }

    private static void deaths() {
        CHECK.about("promise 11: false, and nothing happens: she is dead, no such one");
        refused("she is dead", 0, h -> bit(h.die(Midway.DEAD)));
        refused("no such one", 0, h -> bit(h.die(Midway.MERMAIDS)));
        for (int odd : ODD) {
            refused("die(" + odd + ")", 0, h -> bit(h.die(odd)));
        }
    }

    private static void months() {
        CHECK.about("promise 12: NONE, and nothing happens: no such n; 0 is no thing done");
        for (int n : new int[] {-1, 61, LEAST, MOST}) {
            refused("months(" + n + ")", -1, h -> h.months(n));
        }
        refused("months(0)", 3, h -> h.months(0));
    }

    private static SeaHair nothingToUndo() {
        SeaHair hair = Midway.make();
        hair.restore(1);
        return hair;
    }

    private static void undo() {
        CHECK.about("promise 13: false: there is none");
        refused("undo()", RefusedTest::nothingToUndo, 0, h -> bit(h.undo()));
    }

    private static SeaHair twentyTold() {
        SeaHair hair = Midway.make();
        for (int i = 2; i < 20; i++) {
            hair.tell(9, 9, -1, -1);
        }
        return hair;
    }

    private static void tells() {
        CHECK.about("promise 31: NONE, and nothing happens: 20 are there, no such ones");
        refused("20 are there", RefusedTest::twentyTold, -1, h -> h.tell(1, 1, 1, 1));
        int[][] wrong = {{10, 0, 0, 0}, {-1, 0, 0, 0}, {0, 10, 0, 0}, {0, -1, 0, 0}, {0, 0, 2, 0}, {0, 0, -2, 0}, {0, 0, 0, 2}, {0, 0, 0, -2},
            {LEAST, 0, 0, 0}, {0, MOST, 0, 0}, {0, 0, LEAST, 0}, {0, 0, 0, MOST}};
        for (int[] w : wrong) {
            refused("tell(" + w[0] + ", " + w[1] + ", " + w[2] + ", " + w[3] + ")", -1, h -> h.tell(w[0], w[1], w[2], w[3]));
        }
    }

    private static void slots() {
        CHECK.about("promises 36 and 37: false: no such one, nothing is held");
        for (int slot : new int[] {3, -1, LEAST, MOST, 32, 33}) {
            refused("hold(" + slot + ")", 0, h -> bit(h.hold(slot)));
            refused("restore(" + slot + ")", 0, h -> bit(h.restore(slot)));
        }
        refused("nothing is held", 0, h -> bit(h.restore(Midway.EMPTY_SLOT)));
    }

    private static void ones() {
        CHECK.about("promises 6 to 8 and 38: asked, nothing happens");
        for (int what = -1; what <= 14; what++) {
            int w = what;
            asks("mermaid(0, " + w + ")", h -> h.mermaid(0, w));
            asks("person(0, " + w + ")", h -> h.person(0, w));
            asks("person(" + Midway.OFF + ", " + w + ")", h -> h.person(Midway.OFF, w));
            asks("strand(0, " + w + ")", h -> h.strand(0, w));
            asks("count(" + w + ")", h -> h.count(w));
        }
        for (int odd : ODD) {
            refused("mermaid(" + odd + ", 0)", -100, h -> h.mermaid(odd, 0));
            refused("person(" + odd + ", 0)", -100000, h -> h.person(odd, 0));
            refused("strand(" + odd + ", 0)", -1, h -> h.strand(odd, 0));
            refused("count(" + odd + ")", -1, h -> h.count(odd));
        }
    }

    private static void ahead() {
        CHECK.about("what would be: nothing happens");
        for (int n : new int[] {-1, 0, 1, 60, 61}) {
            for (int p = 0; p < Midway.PEOPLE; p++) {
                int who = p;
                asks("then(" + who + ", " + n + ", 2)", h -> h.then(who, n, 2));
                asks("turns(" + who + ", " + n + ")", h -> h.turns(who, n));
                asks("year(" + who + ", " + n + ", 20)", h -> h.year(who, n, 20));
            }
            asks("swims(1, " + n + ", 0)", h -> h.swims(1, n, 0));
            asks("market(" + n + ")", h -> h.market(n));
        }
        for (int what = -1; what <= 2; what++) {
            int w = what;
            asks("first(" + w + ")", h -> h.first(w));
        }
        for (int i = -1; i <= Midway.STRANDS; i++) {
            int one = i;
            asks("near(" + one + ", 0, 0)", h -> h.near(one, 0, 0));
            asks("again(" + one + ")", h -> h.again(one));
            asks("passing(0, " + one + ", 0)", h -> h.passing(0, one, 0));
            asks("give(" + one + ")", h -> h.give(one));
        }
        asks("cutBest()", SeaHair::cutBest);
    }

    private static void thisMonth() {
        CHECK.about("what is so this month: nothing happens");
        for (int p = -1; p <= Midway.PEOPLE; p++) {
            int who = p;
            for (int what = -1; what <= 2; what++) {
                int w = what;
                asks("plait(" + who + ", 0, 0, " + w + ")", h -> h.plait(who, 0, 0, w));
                asks("strongest(" + who + ", " + w + ")", h -> h.strongest(who, w));
                asks("nothing(" + who + ", " + w + ")", h -> h.nothing(who, w));
                asks("safe(" + who + ", " + w + ")", h -> h.safe(who, w));
            }
            asks("even(" + who + ")", h -> h.even(who));
            asks("worth(" + who + ")", h -> h.worth(who));
        }
    }

    private static void where() {
        CHECK.about("promises 33 to 35: asked, nothing happens");
        for (int k = -1; k <= Midway.TOLD + 1; k++) {
            int known = k;
            asks("where(" + known + ")", h -> h.where(known));
            asks("surest(" + known + ")", h -> h.surest(known));
            asks("holdNext(" + known + ")", h -> h.holdNext(known));
        }
    }

    private static void onANewObject() {
        CHECK.about("a new object, of which nothing is there");
        refused("hand(0, 0)", SeaHair::new, 0, h -> bit(h.hand(0, 0)));
        refused("cut(0)", SeaHair::new, 0, h -> bit(h.cut(0)));
        refused("die(0)", SeaHair::new, 0, h -> bit(h.die(0)));
        refused("undo()", SeaHair::new, 0, h -> bit(h.undo()));
        refused("back(1)", SeaHair::new, -1, h -> h.back(1));
        refused("forget()", SeaHair::new, 0, SeaHair::forget);
        refused("restore(0)", SeaHair::new, 0, h -> bit(h.restore(0)));
        refused("read()", SeaHair::new, 0, SeaHair::read);
        refused("months(0)", SeaHair::new, 0, h -> h.months(0));
    }
}
