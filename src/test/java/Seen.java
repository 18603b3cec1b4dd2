import java.util.ArrayList;
import java.util.List;

/**
 * All that an object answers of itself, line by line, so that two objects can be held against each
 * other. The object is used up by it: what can be undone is undone, SLOTS are gone on from, what was
 * TOLD is forgotten, and what is on the tape is read. It takes fewer than 400 calls.
 */
final class Seen {
    private final SeaHair hair;
    private final List<String> lines = new ArrayList<>();

    private Seen(SeaHair hair) {
        this.hair = hair;
    }

    static List<String> of(SeaHair hair) {
        Seen seen = new Seen(hair);
        seen.counts();
        seen.ones();
        seen.ahead();
        seen.told();
        seen.undone();
        seen.slots();
        seen.tape();
        return seen.lines;
    }

    private void line(String call, int answer) {
        lines.add(call + " = " + answer);
    }

    private void counts() {
        for (int what = 0; what <= 13; what++) {
            line("count(" + what + ")", hair.count(what));
        }
    }

    private void ones() {
        for (int m = 0; m < hair.count(0); m++) {
            for (int what = 0; what <= 4; what++) {
                line("mermaid(" + m + ", " + what + ")", hair.mermaid(m, what));
            }
        }
        for (int p = 0; p < hair.count(1); p++) {
            for (int what = 0; what <= 8; what++) {
                line("person(" + p + ", " + what + ")", hair.person(p, what));
            }
        }
        for (int s = 0; s < hair.count(2); s++) {
            for (int what = 0; what <= 6; what++) {
                line("strand(" + s + ", " + what + ")", hair.strand(s, what));
            }
        }
    }

    /** What shows the PIER, the SEED and the LAWS. */
    private void ahead() {
        line("first(0)", hair.first(0));
        line("market(7)", hair.market(7));
        for (int p = 0; p < hair.count(1); p++) {
            line("safe(" + p + ", 0)", hair.safe(p, 0));
            line("year(" + p + ", 30, 20)", hair.year(p, 30, 20));
        }
    }

    private void told() {
        for (int k = 0; k <= hair.count(10); k++) {
            line("where(" + k + ")", hair.where(k));
            line("surest(" + k + ")", hair.surest(k));
        }
        line("forget()", hair.forget());
    }

    private void brief(String when) {
        for (int what = 3; what <= 9; what += 2) {
            line(when + ", count(" + what + ")", hair.count(what));
        }
        line(when + ", count(6)", hair.count(6));
        line(when + ", mermaid(0, 0)", hair.mermaid(0, 0));
        line(when + ", person(0, 0)", hair.person(0, 0));
        line(when + ", person(0, 8)", hair.person(0, 8));
    }

    private void undone() {
        for (int i = 0; i < 8 && hair.undo(); i++) {
            brief("undone " + i);
        }
    }

    private void slots() {
        for (int slot = 0; slot < 3; slot++) {
            line("restore(" + slot + ")", hair.restore(slot) ? 1 : 0);
            brief("slot " + slot);
        }
    }

    /** Behind a tape that ends in "pi", the PIER is 2 then, and there is one PERSON. */
    private void tape() {
        String rest = "er 2;person z 1 1 1;";
        line("feed", hair.feed(Check.four(rest, 0), Check.four(rest, 4), Check.four(rest, 8), Check.four(rest, 12), Check.four(rest, 16)));
        line("read()", hair.read());
        line("place()", hair.place());
        for (int what = 0; what <= 2; what++) {
            line("then count(" + what + ")", hair.count(what));
        }
        for (int what = 0; what <= 8; what++) {
            line("then person(0, " + what + ")", hair.person(0, what));
        }
        line("then safe(0, 0)", hair.safe(0, 0));
    }
}
