/**
 * The boundary cases of promises 6 to 13 and 36 to 38: what is asked of no such ones, what is done and
 * undone, SLOTS, counts, and the 512 calls of an object.
 */
final class DoneEdgeTest {
    private static final Check CHECK = new Check();
    private static final int LEAST = Integer.MIN_VALUE;
    private static final int MOST = Integer.MAX_VALUE;

    public static void main(String[] args) {
        Midway.check(CHECK);
        noSuchMermaid();
        noSuchPerson();
        noSuchStrand();
        hand();
        cut();
        die();
        months();
        undoNone();
        undo40();
        undoRound();
        undoIsOfThingsDone();
        slots();
        slotsAndUndo();
        counts();
        calls512();
        CHECK.end();
    }

    /** So many of each sort, at 1, 1; person 0 wears all. */
    private static String some(int mermaids, int people, int strands) {
        StringBuilder text = new StringBuilder();
        for (int i = 0; i < mermaids; i++) {
            text.append("mermaid m").append((char) ('a' + i)).append(" 1 1 1 1;");
        }
        for (int i = 0; i < people; i++) {
            text.append("person p").append((char) ('a' + i)).append(" 1 1 99;");
        }
        return text + "strand ma pa 1;".repeat(strands);
    }

    private static String full() {
        return some(4, 6, 8);
    }

    /** Numbers that are none of 0 .. most. */
    private static int[] outside(int most) {
        return new int[] {-1, most + 1, -2, most + 2, 31, 32, 63, 64, 256, -256, 1 << 16, LEAST, LEAST + 1, MOST, MOST - 1};
    }

    private static void noSuchMermaid() {
        CHECK.about("promise 6: what 0 .. 4; -100: no such ones");
        for (int n = 0; n <= 4; n++) {
            SeaHair hair = CHECK.read(some(n, 0, 0));
            CHECK.due("count(0)", hair.count(0), n);
            for (int m = 0; m < n; m++) {
                CHECK.due("mermaid(" + m + ", 4) of " + n, hair.mermaid(m, 4), 1);
            }
            for (int m : outside(n - 1)) {
                CHECK.due("mermaid(" + m + ", 0) of " + n, hair.mermaid(m, 0), -100);
                CHECK.due("mermaid(" + m + ", 4) of " + n, hair.mermaid(m, 4), -100);
            }
        }
        SeaHair hair = CHECK.read(full());
        for (int what : outside(4)) {
            CHECK.due("mermaid(3, " + what + ")", hair.mermaid(3, what), -100);
            CHECK.due("mermaid(4, " + what + ")", hair.mermaid(4, what), -100);
        }
    }

    private static void noSuchPerson() {
        CHECK.about("promise 7: what 0 .. 8; -100000: no such ones");
        for (int n = 0; n <= 6; n++) {
            SeaHair hair = CHECK.read(some(0, n, 0));
            CHECK.due("count(1)", hair.count(1), n);
            for (int p = 0; p < n; p++) {
                CHECK.due("person(" + p + ", 2) of " + n, hair.person(p, 2), 99);
            }
            for (int p : outside(n - 1)) {
                for (int what = 0; what <= 8; what++) {
                    CHECK.due("person(" + p + ", " + what + ") of " + n, hair.person(p, what), -100000);
                }
            }
        }
        SeaHair hair = CHECK.read(full());
        for (int what : outside(8)) {
            CHECK.due("person(5, " + what + ")", hair.person(5, what), -100000);
            CHECK.due("person(6, " + what + ")", hair.person(6, what), -100000);
        }
        CHECK.due("all eight", hair.person(0, 8), 8);
        CHECK.due("none", hair.person(5, 8), 0);
    }

    private static void noSuchStrand() {
        CHECK.about("promise 8: what 0 .. 6; NONE for others");
        for (int n = 0; n <= 8; n++) {
            SeaHair hair = CHECK.read(some(1, 1, n));
            CHECK.due("count(2)", hair.count(2), n);
            for (int s = 0; s < n; s++) {
                CHECK.due("strand(" + s + ", 2) of " + n, hair.strand(s, 2), 1);
            }
            for (int s : outside(n - 1)) {
                for (int what = 0; what <= 6; what++) {
                    CHECK.due("strand(" + s + ", " + what + ") of " + n, hair.strand(s, what), -1);
                }
            }
        }
        SeaHair hair = CHECK.read(full());
        for (int what : outside(6)) {
            CHECK.due("strand(7, " + what + ")", hair.strand(7, what), -1);
            CHECK.due("strand(8, " + what + ")", hair.strand(8, what), -1);
        }
    }

    private static void hand() {
        CHECK.about("promise 9: HANDED, from the first to the last");
        SeaHair hair = CHECK.read(full());
        CHECK.due("the last strand to the last person", hair.hand(7, 5), true);
        CHECK.due("hand(7, 5) once more", hair.hand(7, 5), false);
        CHECK.due("strand(7, 1)", hair.strand(7, 1), 5);
        CHECK.due("back to the first", hair.hand(7, 0), true);
        CHECK.due("the first strand", hair.hand(0, 1), true);
        CHECK.due("count(9)", hair.count(9), 3);
        CHECK.about("a STRAND of who is OFF, or of a dead one, is HANDED on; to who is OFF none is");
        hair = Midway.make();
        CHECK.due("from who is OFF", hair.hand(1, 0), true);
        CHECK.due("back to them", hair.hand(1, Midway.OFF), false);
        CHECK.due("of a dead one", hair.hand(4, 0), true);
        CHECK.due("a cut one", hair.hand(Midway.CUT, 2), false);
        CHECK.due("a cut one, to its wearer", hair.hand(Midway.CUT, 0), false);
        hair.undo();
        hair.undo();
        CHECK.due("undone", hair.count(9), 5);
    }

    private static void cut() {
        CHECK.about("promise 10: CUT, from the first to the last, each once");
        SeaHair hair = CHECK.read(full());
        for (int s = 0; s < 8; s++) {
            CHECK.due("strand(" + s + ", 3)", hair.strand(s, 3), 0);
            CHECK.due("cut(" + s + ")", hair.cut(s), true);
            CHECK.due("strand(" + s + ", 3)", hair.strand(s, 3), 1);
            CHECK.due("cut(" + s + ") once more", hair.cut(s), false);
            CHECK.due("count(7)", hair.count(7), (1 << s + 1) - 1);
            CHECK.due("count(9)", hair.count(9), s + 1);
        }
        CHECK.due("cut(8)", hair.cut(8), false);
        CHECK.due("count(12)", hair.count(12), 0);
        CHECK.about("CUT for good");
        hair.months(60);
        CHECK.due("count(7)", hair.count(7), 255);
        hair = Midway.make();
        CHECK.due("of who is OFF", hair.cut(1), true);
        CHECK.due("of a dead one", hair.cut(4), true);
    }

    private static void die() {
        CHECK.about("promise 11: DIES, from the first to the last, each once");
        SeaHair hair = CHECK.read(full());
        for (int m = 0; m < 4; m++) {
            CHECK.due("mermaid(" + m + ", 4)", hair.mermaid(m, 4), 1);
            CHECK.due("die(" + m + ")", hair.die(m), true);
            CHECK.due("mermaid(" + m + ", 4)", hair.mermaid(m, 4), 0);
            CHECK.due("die(" + m + ") once more", hair.die(m), false);
            CHECK.due("count(6)", hair.count(6), (1 << m + 1) - 1);
            CHECK.due("count(9)", hair.count(9), m + 1);
        }
        CHECK.due("die(4)", hair.die(4), false);
        hair.months(60);
        CHECK.due("none has swum", hair.mermaid(3, 0), 1);
    }

    private static void months() {
        CHECK.about("promise 12: n MONTHS (0 .. 60; 0 is no thing done)");
        SeaHair hair = CHECK.read(full());
        CHECK.due("months(0)", hair.months(0), 0);
        CHECK.due("count(9)", hair.count(9), 0);
        CHECK.due("months(1)", hair.months(1), 1);
        CHECK.due("count(9)", hair.count(9), 1);
        CHECK.due("months(0)", hair.months(0), 1);
        CHECK.due("count(9)", hair.count(9), 1);
        CHECK.due("months(60)", hair.months(60), 61);
        CHECK.due("count(9)", hair.count(9), 2);
        CHECK.due("months(59)", hair.months(59), 120);
        for (int n : outside(60)) {
            if (n < 0 || n > 60) {
                CHECK.due("months(" + n + ")", hair.months(n), -1);
                CHECK.due("count(3)", hair.count(3), 120);
                CHECK.due("count(9)", hair.count(9), 3);
            }
        }
        CHECK.due("one thing, of 59 months", hair.undo(), true);
        CHECK.due("count(3)", hair.count(3), 61);
    }

    private static void undoNone() {
        CHECK.about("promise 13: false: there is none");
        SeaHair hair = new SeaHair();
        CHECK.due("new", hair.undo(), false);
        hair = CHECK.read(full());
        CHECK.due("read", hair.undo(), false);
        CHECK.due("cut(0)", hair.cut(0), true);
        CHECK.due("one", hair.undo(), true);
        CHECK.due("none more", hair.undo(), false);
        CHECK.due("count(9)", hair.count(9), 0);
        CHECK.due("what is undone can be done again", hair.cut(0), true);
    }

    private static void undo40() {
        CHECK.about("promise 13: the last 40 can be");
        for (int things = 38; things <= 43; things++) {
            SeaHair hair = CHECK.read(full());
            for (int i = 1; i <= things; i++) {
                CHECK.due("months(1)", hair.months(1), i);
                CHECK.due("count(9)", hair.count(9), Math.min(40, i));
            }
            int last = Math.min(40, things);
            for (int i = 1; i <= last; i++) {
                CHECK.due("undo() " + i + " of " + things, hair.undo(), true);
                CHECK.due("month", hair.count(3), things - i);
                CHECK.due("count(9)", hair.count(9), last - i);
            }
            CHECK.due("one more of " + things, hair.undo(), false);
            CHECK.due("month", hair.count(3), Math.max(0, things - 40));
        }
    }

    private static void undoRound() {
        CHECK.about("things done, undone and done again, more than 40 in all");
        SeaHair hair = CHECK.read(full());
        int month = 0;
        for (int round = 0; round < 6; round++) {
            for (int i = 0; i < 30; i++) {
                month = hair.months(1);
            }
            for (int i = 0; i < 7; i++) {
                CHECK.due("undo()", hair.undo(), true);
                month--;
                CHECK.due("month", hair.count(3), month);
            }
            CHECK.due("count(9)", hair.count(9), round == 0 ? 23 : 33);
        }
        for (int i = 0; i < 33; i++) {
            CHECK.due("undo()", hair.undo(), true);
        }
        CHECK.due("no more", hair.undo(), false);
        CHECK.due("month", hair.count(3), 6 * 23 - 33);
    }

    private static void undoIsOfThingsDone() {
        CHECK.about("promise 13: hand, cut, die, months, and nothing else, is undone");
        SeaHair hair = Midway.make();
        hair.hold(2);
        hair.tell(1, 1, 1, 1);
        hair.back(1);
        hair.feed(0, 0, 0, 0, 0);
        hair.then(0, 60, 0);
        hair.year(0, 60, 20);
        hair.cutBest();
        CHECK.due("count(9)", hair.count(9), 5);
        CHECK.due("undo()", hair.undo(), true);
        CHECK.due("the last months", hair.count(3), 2);
        CHECK.due("what is TOLD stays", hair.count(10), 3);
        CHECK.due("the tape stays", hair.count(8), 29);
        CHECK.due("what is held stays", hair.count(11), 3);
        CHECK.due("undo() of hand", hair.undo(), true);
        CHECK.due("strand(2, 1)", hair.strand(2, 1), 2);
        CHECK.due("undo() of die", hair.undo(), true);
        CHECK.due("count(6)", hair.count(6), 0);
        CHECK.due("undo() of cut", hair.undo(), true);
        CHECK.due("count(7)", hair.count(7), 0);
        CHECK.due("undo() of months", hair.undo(), true);
        CHECK.due("count(5)", hair.count(5), 0);
        CHECK.due("count(3)", hair.count(3), 0);
        CHECK.due("no more", hair.undo(), false);
    }

    private static void slots() {
        CHECK.about("promise 36: a SLOT (0 .. 2); promise 37: no such one, nothing is held");
        SeaHair hair = CHECK.read(full());
        for (int slot = 0; slot < 3; slot++) {
            CHECK.due("restore(" + slot + "), nothing is held", hair.restore(slot), false);
            CHECK.due("hold(" + slot + ")", hair.hold(slot), true);
            CHECK.due("count(11)", hair.count(11), slot + 1);
            CHECK.due("hold(" + slot + ") once more", hair.hold(slot), true);
            CHECK.due("count(11)", hair.count(11), slot + 1);
            hair.months(1);
        }
        for (int slot : outside(2)) {
            CHECK.due("hold(" + slot + ")", hair.hold(slot), false);
            CHECK.due("restore(" + slot + ")", hair.restore(slot), false);
        }
        CHECK.due("count(11)", hair.count(11), 3);
        CHECK.due("count(3)", hair.count(3), 3);
        for (int slot = 2; slot >= 0; slot--) {
            CHECK.due("restore(" + slot + ")", hair.restore(slot), true);
            CHECK.due("the month held", hair.count(3), slot);
            hair.months(9);
            CHECK.due("that stays there", hair.restore(slot), true);
            CHECK.due("the month held", hair.count(3), slot);
        }
        CHECK.about("the last SLOT alone");
        hair = CHECK.read(full());
        hair.hold(2);
        CHECK.due("restore(0)", hair.restore(0), false);
        CHECK.due("restore(1)", hair.restore(1), false);
        CHECK.due("restore(2)", hair.restore(2), true);
        CHECK.due("a new object's can be held, too", new SeaHair().hold(0), true);
    }

    private static void slotsAndUndo() {
        CHECK.about("promise 37: nothing can be undone then; not what is TOLD, nor the tape");
        SeaHair hair = Midway.make();
        CHECK.due("restore of an empty one", hair.restore(Midway.EMPTY_SLOT), false);
        CHECK.due("count(9)", hair.count(9), 5);
        CHECK.due("restore(0)", hair.restore(0), true);
        CHECK.due("count(9)", hair.count(9), 0);
        CHECK.due("undo()", hair.undo(), false);
        CHECK.due("count(3)", hair.count(3), 2);
        CHECK.due("count(10)", hair.count(10), Midway.TOLD);
        CHECK.due("count(8)", hair.count(8), Midway.BYTES);
        CHECK.due("count(5)", hair.count(5), 1 << Midway.OFF);
        CHECK.due("count(6)", hair.count(6), 1 << Midway.DEAD);
        CHECK.due("count(7)", hair.count(7), 1 << Midway.CUT);
        CHECK.due("strand(2, 1)", hair.strand(2, 1), 0);
        CHECK.due("months(1)", hair.months(1), 3);
        CHECK.due("undo()", hair.undo(), true);
        CHECK.due("to where it went on from", hair.count(3), 2);
        CHECK.due("undo()", hair.undo(), false);
        CHECK.due("restore(1)", hair.restore(1), true);
        CHECK.due("count(3)", hair.count(3), 3);
    }

    private static void counts() {
        CHECK.about("promise 38: 0 .. 13; NONE for others");
        int[] due = {3, 3, 5, 3, 3, 2, 4, 8, 10, 5, 2, 2};
        SeaHair hair = Midway.make();
        for (int what = 0; what < due.length; what++) {
            CHECK.due("count(" + what + ")", hair.count(what), due[what]);
        }
        for (int what : outside(13)) {
            CHECK.due("count(" + what + ")", hair.count(what), -1);
        }
        CHECK.about("promise 38: full");
        hair = CHECK.read(full() + "price=1000;stands=0;pier 0;");
        Check.put(hair, " ".repeat(2000));
        CHECK.due("MERMAIDS", hair.count(0), 4);
        CHECK.due("PEOPLE", hair.count(1), 6);
        CHECK.due("STRANDS", hair.count(2), 8);
        CHECK.due("bytes", hair.count(8), 2000);
        CHECK.due("PRICES of all", hair.count(12), 8 * 999);
        hair.months(1);
        CHECK.due("all below the PIER are OFF", hair.count(5), 63);
        hair = CHECK.read("mermaid m 0 0 0 0;person a 5 0 1;person b 5 0 1;person c 5 0 1;person d 5 0 1;person e 5 0 1;person f 5 0 1;"
            + "strand m a 9;strand m b 9;strand m c 9;strand m d 9;strand m e 9;strand m f 9;");
        CHECK.due("all would be moved", hair.count(13), 63);
        hair.cut(5);
        CHECK.due("all but the last", hair.count(13), 31);
        hair.cut(0);
        CHECK.due("all but the first and the last", hair.count(13), 30);
    }

    private static void calls512() {
        CHECK.about("an object is used for at most 512 calls");
        SeaHair hair = new SeaHair();
        for (int i = 1; i <= 511; i++) {
            hair.months(60);
        }
        CHECK.due("the 512th", hair.months(60), 512 * 60);
        hair = CHECK.read(full());
        for (int i = 0; i < 480; i++) {
            hair.hand(i % 8, i % 6);
        }
        CHECK.due("count(9) of more things than can be undone", hair.count(9), 40);
    }
}
