/**
 * An object in the middle of things: of each sort of thing that can be there, one is there and one is
 * not. Mermaid 2 is dead, person 1 is OFF, strand 3 is cut, SLOT 2 is empty, five things can be
 * undone, two are TOLD, and the tape holds ten bytes.
 */
final class Midway {
    static final int MERMAIDS = 3;
    static final int PEOPLE = 3;
    static final int STRANDS = 5;
    static final int DEAD = 2;
    static final int OFF = 1;
    static final int CUT = 3;
    static final int EMPTY_SLOT = 2;
    static final int TOLD = 2;
    static final int BYTES = 10;

    private Midway() {
    }

    static SeaHair make() {
        SeaHair hair = new SeaHair();
        Check.put(hair, "mermaid m 5 9 0 0;mermaid n 0 0 1 2;mermaid d 9 0 0 0;person a 5 2 5;person o 5 4 1;person c 2 2 50;"
            + "strand m a 3;strand m o 9;strand n c 4;strand n a 2;strand d c 1;"
            + "price = length * 10 + far;storm = if month < 6 then 0 else 3;seed 77;pier 5;stands = weight - month;");
        hair.read();
        hair.months(2);
        hair.cut(CUT);
        hair.die(DEAD);
        hair.hand(2, 0);
        hair.hold(0);
        hair.months(1);
        hair.hold(1);
        hair.tell(5, 5, 1, -1);
        hair.tell(7, 5, 0, -1);
        Check.put(hair, "pier 3; pi");
        return hair;
    }

    /** That it is as told above, so that what is refused is refused for the reason meant. */
    static void check(Check check) {
        check.about("midway");
        SeaHair hair = make();
        int[] due = {MERMAIDS, PEOPLE, STRANDS, 3, 3, 1 << OFF, 1 << DEAD, 1 << CUT, BYTES, 5, TOLD, 2};
        for (int what = 0; what < due.length; what++) {
            check.due("count(" + what + ")", hair.count(what), due[what]);
        }
        check.due("who wears strand 2", hair.strand(2, 1), 0);
        check.due("who wears strand 0", hair.strand(0, 1), 0);
        check.same("made twice", make(), make());
    }
}
