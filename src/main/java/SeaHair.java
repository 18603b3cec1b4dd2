import java.util.Arrays;

/**
 * Hair combed out of the sea that pulls toward wherever the rest of her is. The words in capitals
 * are those of the document.
 */
public final class SeaHair {
    public static final int NONE = -1;

    private static final int NOT = -2;
    private static final int STANDS_NOWHERE = -3;
    private static final int NO_MERMAID = -100;
    private static final int NO_PERSON = -100000;

    private static final int MOST_MERMAIDS = 4;
    private static final int MOST_PEOPLE = 6;
    private static final int MOST_STRANDS = 8;
    private static final int MOST_TOKENS = 400;
    private static final int MOST_IFS = 4;
    private static final int MOST_WITHIN = 6;
    private static final int MOST_LETTERS = 8;
    private static final int MOST_DIGITS = 4;
    private static final int MOST_BYTES = 2000;
    private static final int MOST_UNDONE = 40;
    private static final int MOST_TOLD = 20;
    private static final int MOST_SLOTS = 3;
    private static final int MOST_SEEDS = 20;
    private static final int MOST_MONTHS = 60;
    private static final int MOST_MONTHS_SOUGHT = 100;
    private static final int MOST_MONTHS_AGAIN = 36;
    private static final int MOST_COURSE = 999;
    private static final int MOST_STEP = 3;
    private static final int MOST_WEIGHT = 99;
    private static final int MOST_LENGTH = 9;
    private static final int MOST_SEED = 9999;
    private static final int BYTES_FED = 20;
    private static final int SIDE = 10;
    private static final int LAST = 9;
    private static final int PLACES = 100;
    private static final int PIER_UNTOLD = 4;

    /** Later than all MONTHS that are looked at, so that nobody OFF is the latest of all. */
    private static final int NEVER = 101;

    // Where each thing stands in the row of a Sea.
    private static final int MERMAID_X = 0;
    private static final int MERMAID_Y = 4;
    private static final int STEP_X = 8;
    private static final int STEP_Y = 12;
    private static final int PERSON_X = 16;
    private static final int PERSON_Y = 22;
    private static final int WEARER = 28;
    private static final int SEA_ROW = 36;

    // LAWS, in the order of their words.
    private static final int LAWS = 4;
    private static final int PULL = 0;
    private static final int STANDS = 1;
    private static final int PRICE = 2;
    private static final int STORM = 3;
    private static final int MOST_PULL = 99;
    private static final int MOST_STANDS = 999;
    private static final int MOST_PRICE = 999;
    private static final int MOST_STORM = 100;

    // VARS, in the order of their words.
    private static final int VARS = 9;
    private static final int LENGTH = 0;
    private static final int FAR = 1;
    private static final int MOON = 2;
    private static final int MONTH = 3;
    private static final int WEIGHT = 4;
    private static final int ACROSS = 5;
    private static final int DOWN = 6;
    private static final int WHICH = 7;
    private static final int WEARS = 8;

    // What a LAW is turned into: below VAR_CODE an INT, below SIGN_CODE a VAR, else a SIGN.
    private static final int VAR_CODE = 10000;
    private static final int SIGN_CODE = 20000;

    /** The words in quotes; a word's kind is its number here, and a SIGN's kind is its byte. */
    private static final String WORDS =
            "mermaid person strand pull stands price storm pier seed if then else length far moon month weight across down which wears ";
    private static final int MERMAID_WORD = 0;
    private static final int PERSON_WORD = 1;
    private static final int STRAND_WORD = 2;
    private static final int PULL_WORD = 3;
    private static final int STORM_WORD = 6;
    private static final int PIER_WORD = 7;
    private static final int SEED_WORD = 8;
    private static final int IF_WORD = 9;
    private static final int THEN_WORD = 10;
    private static final int ELSE_WORD = 11;
    private static final int LENGTH_WORD = 12;
    private static final int WEARS_WORD = 20;
    private static final int NAME = 21;
    private static final int INT = 22;
    private static final int TEXT_END = 23;
    private static final int NO_TOKEN = 24;
    private static final String SIGNS = ";=+-*/<()";

    private static final int SYNTAX = 1;
    private static final int ROOM = 2;
    private static final int TWICE = 3;
    private static final int NO_NAME = 4;
    private static final int WRONG = 5;

    private final byte[] tape;
    private int tapeLength;
    private final Reader reader;
    private Book book;
    private Book spareBook;
    private final Sea sea;
    private final Sea trialSea;
    private final Waters now;
    private final Waters trial;
    private final History history;
    private final Sea[] slots;
    private int slotsHeld;
    private final Plaits plaits;
    private final Told told;

    public SeaHair() {
        tape = new byte[MOST_BYTES];
        book = new Book();
        spareBook = new Book();
        reader = new Reader(tape, spareBook);
        sea = new Sea();
        trialSea = new Sea();
        now = new Waters(book, sea);
        trial = new Waters(book, trialSea);
        history = new History();
        slots = new Sea[MOST_SLOTS];
        for (int slot = 0; slot < MOST_SLOTS; slot++) {
            slots[slot] = new Sea();
        }
        plaits = new Plaits();
        told = new Told();
    }

    // ---- the tape and its text

    public int feed(int a, int b, int c, int d, int e) {
        if (tapeLength > MOST_BYTES - BYTES_FED) {
            return NONE;
        }
        feedFour(a);
        feedFour(b);
        feedFour(c);
        feedFour(d);
        feedFour(e);
        return tapeLength;
    }

    private void feedFour(int four) {
        for (int shift = 24; shift >= 0; shift -= 8) {
            if (tapeLength < tape.length) {
                tape[tapeLength] = (byte) (four >>> shift);
                tapeLength++;
            }
        }
    }

    public int back(int n) {
        if (n < 0 || n > tapeLength) {
            return NONE;
        }
        tapeLength -= n;
        return tapeLength;
    }

    public int read() {
        int fault = reader.readText(tapeLength, spareBook);
        tapeLength = 0;
        if (fault == 0) {
            goOnFromSpareBook();
        }
        return fault;
    }

    private void goOnFromSpareBook() {
        Book readBook = spareBook;
        spareBook = book;
        book = readBook;
        now.book = book;
        trial.book = book;
        sea.copyFrom(book.begin);
        history.clearAll();
        slotsHeld = 0;
        told.clearAll();
    }

    public int place() {
        return reader.faultAt;
    }

    // ---- what is there

    private boolean isMermaid(int mermaid) {
        return mermaid >= 0 && mermaid < book.mermaids;
    }

    private boolean isPerson(int person) {
        return person >= 0 && person < book.people;
    }

    private boolean isStrand(int strand) {
        return strand >= 0 && strand < book.strands;
    }

    private static boolean isWithin(int number, int least, int most) {
        return number >= least && number <= most;
    }

    public int mermaid(int mermaid, int what) {
        if (!isMermaid(mermaid)) {
            return NO_MERMAID;
        }
        switch (what) {
            case 0: return sea.row[MERMAID_X + mermaid];
            case 1: return sea.row[MERMAID_Y + mermaid];
            case 2: return sea.row[STEP_X + mermaid];
            case 3: return sea.row[STEP_Y + mermaid];
            case 4: return sea.isDead(mermaid) ? 0 : 1;
            default: return NO_MERMAID;
        }
    }

    public int person(int person, int what) {
        if (!isPerson(person)) {
            return NO_PERSON;
        }
        int x = sea.row[PERSON_X + person];
        int y = sea.row[PERSON_Y + person];
        switch (what) {
            case 0: return x;
            case 1: return y;
            case 2: return book.weight[person];
            case 3: return sea.isOff(person) ? 1 : 0;
            case 4:
                now.feel(person, x, y);
                return now.feltAcross;
            case 5:
                now.feel(person, x, y);
                return now.feltDown;
            case 6: return now.standsAt(person, x, y);
            case 7: return now.stormOf(person);
            case 8: return now.wornBy(person);
            default: return NO_PERSON;
        }
    }

    public int strand(int strand, int what) {
        if (!isStrand(strand)) {
            return NONE;
        }
        int wearer = sea.row[WEARER + strand];
        int x = sea.row[PERSON_X + wearer];
        int y = sea.row[PERSON_Y + wearer];
        switch (what) {
            case 0: return book.whose[strand];
            case 1: return wearer;
            case 2: return book.length[strand];
            case 3: return sea.isCut(strand) ? 1 : 0;
            case 4: return now.pullAt(strand, wearer, x, y);
            case 5: return now.priceOf(strand);
            case 6: return sea.farOf(book.whose[strand], x, y);
            default: return NONE;
        }
    }

    public int count(int what) {
        switch (what) {
            case 0: return book.mermaids;
            case 1: return book.people;
            case 2: return book.strands;
            case 3: return sea.month;
            case 4: return sea.month % 4;
            case 5: return sea.off;
            case 6: return sea.dead;
            case 7: return sea.cutOnes;
            case 8: return tapeLength;
            case 9: return history.size;
            case 10: return told.size;
            case 11: return Integer.bitCount(slotsHeld);
            case 12: return now.pricesOfAll();
            case 13: return movedNow();
            default: return NONE;
        }
    }

    private int movedNow() {
        int moved = 0;
        for (int person = 0; person < book.people; person++) {
            if (now.isMovedAt(person, sea.row[PERSON_X + person], sea.row[PERSON_Y + person])) {
                moved |= 1 << person;
            }
        }
        return moved;
    }

    // ---- what is done

    public boolean hand(int strand, int person) {
        if (!isStrand(strand) || !isPerson(person) || !sea.mayBeHanded(strand, person)) {
            return false;
        }
        history.keep(sea);
        sea.row[WEARER + strand] = person;
        return true;
    }

    public boolean cut(int strand) {
        if (!isStrand(strand) || sea.isCut(strand)) {
            return false;
        }
        history.keep(sea);
        sea.cutOnes |= 1 << strand;
        return true;
    }

    public boolean die(int mermaid) {
        if (!isMermaid(mermaid) || sea.isDead(mermaid)) {
            return false;
        }
        history.keep(sea);
        sea.dead |= 1 << mermaid;
        return true;
    }

    public int months(int n) {
        if (!isWithin(n, 0, MOST_MONTHS)) {
            return NONE;
        }
        if (n > 0) {
            history.keep(sea);
        }
        for (int gone = 0; gone < n; gone++) {
            now.goMonth(0, book.people, true);
        }
        return sea.month;
    }

    public boolean undo() {
        return history.takeBackInto(sea);
    }

    public boolean hold(int slot) {
        if (!isWithin(slot, 0, MOST_SLOTS - 1)) {
            return false;
        }
        slots[slot].copyFrom(sea);
        slotsHeld |= 1 << slot;
        return true;
    }

    public boolean restore(int slot) {
        if (!isWithin(slot, 0, MOST_SLOTS - 1) || (slotsHeld >> slot & 1) == 0) {
            return false;
        }
        sea.copyFrom(slots[slot]);
        history.clearAll();
        return true;
    }

    // ---- what would be

    public int then(int person, int n, int what) {
        if (!isPerson(person) || !isWithin(n, 0, MOST_MONTHS) || !isWithin(what, 0, 2)) {
            return NONE;
        }
        trialSea.copyFrom(sea);
        for (int gone = 0; gone < n; gone++) {
            trial.goMonth(person, person + 1, true);
        }
        if (what == 0) {
            return trialSea.row[PERSON_X + person];
        }
        if (what == 1) {
            return trialSea.row[PERSON_Y + person];
        }
        return trialSea.isOff(person) ? 1 : 0;
    }

    public int swims(int mermaid, int n, int what) {
        if (!isMermaid(mermaid) || !isWithin(n, 0, MOST_MONTHS) || !isWithin(what, 0, 1)) {
            return NONE;
        }
        trialSea.copyFrom(sea);
        for (int gone = 0; gone < n; gone++) {
            trialSea.swim(mermaid);
        }
        return trialSea.row[(what == 0 ? MERMAID_X : MERMAID_Y) + mermaid];
    }

    public int first(int what) {
        if (!isWithin(what, 0, 1)) {
            return NONE;
        }
        trialSea.copyFrom(sea);
        int behind = trial.goUntilFirst();
        if (behind == NEVER) {
            return NOT;
        }
        return what == 0 ? behind : lowestOf(trialSea.off & ~sea.off);
    }

    public int near(int mermaid, int person, int d) {
        if (!isMermaid(mermaid) || !isPerson(person) || !isWithin(d, 0, LAST)) {
            return NONE;
        }
        int x = sea.row[PERSON_X + person];
        int y = sea.row[PERSON_Y + person];
        trialSea.copyFrom(sea);
        for (int behind = 0; behind <= MOST_MONTHS_SOUGHT; behind++) {
            if (trialSea.farOf(mermaid, x, y) <= d) {
                return behind;
            }
            trialSea.swim(mermaid);
        }
        return NOT;
    }

    public int passing(int mermaid, int other, int d) {
        if (!isMermaid(mermaid) || !isMermaid(other) || mermaid == other || !isWithin(d, 0, LAST)) {
            return NONE;
        }
        trialSea.copyFrom(sea);
        for (int behind = 0; behind <= MOST_MONTHS_SOUGHT; behind++) {
            int x = trialSea.row[MERMAID_X + other];
            int y = trialSea.row[MERMAID_Y + other];
            if (trialSea.farOf(mermaid, x, y) <= d) {
                return behind;
            }
            trialSea.swim(mermaid);
            trialSea.swim(other);
        }
        return NOT;
    }

    public int again(int mermaid) {
        if (!isMermaid(mermaid)) {
            return NONE;
        }
        trialSea.copyFrom(sea);
        for (int behind = 1; behind <= MOST_MONTHS_AGAIN; behind++) {
            trialSea.swim(mermaid);
            if (trialSea.swimsLike(sea, mermaid)) {
                return behind;
            }
        }
        return NOT;
    }

    public int turns(int person, int n) {
        if (!isPerson(person) || !isWithin(n, 0, MOST_MONTHS)) {
            return NONE;
        }
        int moved = 0;
        trialSea.copyFrom(sea);
        for (int gone = 0; gone < n; gone++) {
            int x = trialSea.row[PERSON_X + person];
            int y = trialSea.row[PERSON_Y + person];
            if (trial.isMovedAt(person, x, y)) {
                moved++;
            }
            trial.goMonth(person, person + 1, false);
        }
        return moved;
    }

    public int market(int n) {
        if (!isWithin(n, 0, MOST_MONTHS)) {
            return NONE;
        }
        trialSea.copyFrom(sea);
        for (int gone = 0; gone < n; gone++) {
            trial.goMonth(0, book.people, false);
        }
        return trial.pricesOfAll();
    }

    public int year(int person, int n, int s) {
        if (!isPerson(person) || !isWithin(n, 0, MOST_MONTHS) || !isWithin(s, 1, MOST_SEEDS)) {
            return NONE;
        }
        // Until one is OFF, STORMS change nothing of where one goes: one course does for all SEEDS.
        int drowned = 0;
        trialSea.copyFrom(sea);
        for (int gone = 0; gone < n; gone++) {
            drowned |= trial.seedsThatDrown(person, s);
            trial.goMonth(person, person + 1, false);
        }
        return trialSea.isOff(person) ? 0 : s - Integer.bitCount(drowned);
    }

    public int cutBest() {
        trialSea.copyFrom(sea);
        int latest = trial.goUntilFirst();
        int fallen = trialSea.off & ~sea.off;
        int best = NOT;
        for (int strand = 0; strand < book.strands && latest < NEVER; strand++) {
            // A cut helps the wearer alone: if somebody else falls as early, it is no later.
            if (!sea.isCut(strand) && fallen == 1 << sea.row[WEARER + strand]) {
                trialSea.copyFrom(sea);
                trialSea.cutOnes |= 1 << strand;
                int behind = trial.goUntilFirst();
                if (behind > latest) {
                    latest = behind;
                    best = strand;
                }
            }
        }
        return best;
    }

    public int give(int strand) {
        if (!isStrand(strand)) {
            return NONE;
        }
        trialSea.copyFrom(sea);
        int latest = trial.goUntilFirst();
        int fallen = trialSea.off & ~sea.off & ~(1 << sea.row[WEARER + strand]);
        int best = NOT;
        for (int person = 0; person < book.people && latest < NEVER; person++) {
            // It helps who had it and who gets it alone: if somebody else falls as early, it is no later.
            if (sea.mayBeHanded(strand, person) && (fallen & ~(1 << person)) == 0) {
                trialSea.copyFrom(sea);
                trialSea.row[WEARER + strand] = person;
                int behind = trial.goUntilFirst();
                if (behind > latest) {
                    latest = behind;
                    best = person;
                }
            }
        }
        return best;
    }

    // ---- what is so this month

    public int plait(int person, int across, int down, int what) {
        if (!isPerson(person) || !isWithin(what, 0, 1) || !isWithin(across, -MOST_COURSE, MOST_COURSE)
                || !isWithin(down, -MOST_COURSE, MOST_COURSE)) {
            return NONE;
        }
        if (sea.isOff(person)) {
            return NOT;
        }
        plaits.layOn(now, person);
        plaits.seek(across, down, 0);
        if (plaits.found == 0) {
            return NOT;
        }
        return what == 0 ? Integer.bitCount(plaits.fewest) : plaits.fewest;
    }

    public int nothing(int person, int what) {
        if (!isPerson(person) || !isWithin(what, 0, 1)) {
            return NONE;
        }
        if (sea.isOff(person)) {
            return what == 0 ? 0 : NOT;
        }
        plaits.layOn(now, person);
        plaits.seek(0, 0, 1);
        if (what == 0) {
            return plaits.found;
        }
        return plaits.found == 0 ? NOT : plaits.fewest;
    }

    public int strongest(int person, int what) {
        if (!isPerson(person) || !isWithin(what, 0, 1)) {
            return NONE;
        }
        int best = NOT;
        int most = NOT;
        for (int strand = 0; strand < book.strands; strand++) {
            if (sea.isWorn(strand, person)) {
                int pull = now.pullAt(strand, person, sea.row[PERSON_X + person], sea.row[PERSON_Y + person]);
                if (pull > most) {
                    most = pull;
                    best = strand;
                }
            }
        }
        return what == 0 ? best : most;
    }

    public int even(int person) {
        if (!isPerson(person)) {
            return NONE;
        }
        plaits.layOn(now, person);
        int pairs = 0;
        for (int strand = 0; strand < book.strands; strand++) {
            for (int other = strand + 1; other < book.strands; other++) {
                if (sea.isWorn(strand, person) && sea.isWorn(other, person) && plaits.areEven(strand, other)) {
                    pairs++;
                }
            }
        }
        return pairs;
    }

    public int safe(int person, int what) {
        if (!isPerson(person) || !isWithin(what, 0, 1)) {
            return NONE;
        }
        if (sea.isOff(person)) {
            return STANDS_NOWHERE;
        }
        int places = 0;
        int nearest = NOT;
        int nearestFar = SIDE;
        for (int place = 0; place < SIDE * (book.pier + 1); place++) {
            int x = place % SIDE;
            int y = place / SIDE;
            if (!now.isMovedAt(person, x, y)) {
                places++;
                int far = farApart(x, y, sea.row[PERSON_X + person], sea.row[PERSON_Y + person]);
                if (far < nearestFar) {
                    nearestFar = far;
                    nearest = place;
                }
            }
        }
        return what == 0 ? places : nearest;
    }

    public int worth(int person) {
        if (!isPerson(person)) {
            return NONE;
        }
        int sum = 0;
        for (int strand = 0; strand < book.strands; strand++) {
            if (sea.isWorn(strand, person)) {
                sum += now.priceOf(strand);
            }
        }
        return sum;
    }

    // ---- where she is

    public int tell(int x, int y, int across, int down) {
        if (!isWithin(x, 0, LAST) || !isWithin(y, 0, LAST) || !isWithin(across, -1, 1) || !isWithin(down, -1, 1)) {
            return NONE;
        }
        return told.add(x, y, across, down);
    }

    public int forget() {
        int were = told.size;
        told.clearAll();
        return were;
    }

    public int where(int k) {
        if (!isWithin(k, 0, told.size)) {
            return NONE;
        }
        told.lookBy(k);
        return told.left;
    }

    public int surest(int k) {
        if (!isWithin(k, 0, told.size)) {
            return NONE;
        }
        told.lookBy(k);
        return told.firstLeft();
    }

    public int holdNext(int k) {
        if (!isWithin(k, 0, told.size)) {
            return NONE;
        }
        told.lookBy(k);
        return told.left == 0 ? NOT : told.bestNext();
    }

    private static int farApart(int x, int y, int otherX, int otherY) {
        return Math.max(Math.abs(x - otherX), Math.abs(y - otherY));
    }

    /** -1, 0 or 1: whether the way goes to less, nowhere, or to more. */
    private static int wayTo(int to, int from) {
        if (to == from) {
            return 0;
        }
        return to < from ? -1 : 1;
    }

    private static int lowestOf(int people) {
        for (int person = 0; person < MOST_PEOPLE; person++) {
            if ((people >> person & 1) != 0) {
                return person;
            }
        }
        return NONE;
    }

    private static int heldTo(int most, int number) {
        return Math.max(0, Math.min(most, number));
    }

    /** What goes on: all that months and hands change. */
    private static final class Sea {
        final int[] row;
        int month;
        int off;
        int dead;
        int cutOnes;

        Sea() {
            row = new int[SEA_ROW];
        }

        void copyFrom(Sea other) {
            System.arraycopy(other.row, 0, row, 0, SEA_ROW);
            month = other.month;
            off = other.off;
            dead = other.dead;
            cutOnes = other.cutOnes;
        }

        void clearAll() {
            Arrays.fill(row, 0);
            month = 0;
            off = 0;
            dead = 0;
            cutOnes = 0;
        }

        boolean isOff(int person) {
            return (off >> person & 1) != 0;
        }

        boolean isDead(int mermaid) {
            return (dead >> mermaid & 1) != 0;
        }

        boolean isCut(int strand) {
            return (cutOnes >> strand & 1) != 0;
        }

        /** Whether it counts among what a PERSON wears: a cut one does not. */
        boolean isWorn(int strand, int person) {
            return row[WEARER + strand] == person && (cutOnes >> strand & 1) == 0;
        }

        boolean mayBeHanded(int strand, int person) {
            return row[WEARER + strand] != person && !isCut(strand) && !isOff(person);
        }

        void swim(int mermaid) {
            if (!isDead(mermaid)) {
                swimAlong(MERMAID_X + mermaid, STEP_X + mermaid);
                swimAlong(MERMAID_Y + mermaid, STEP_Y + mermaid);
            }
        }

        private void swimAlong(int at, int step) {
            int to = row[at] + row[step];
            if (to < 0) {
                to = -to;
                row[step] = -row[step];
            } else if (to > LAST) {
                to = 2 * LAST - to;
                row[step] = -row[step];
            }
            row[at] = to;
        }

        boolean swimsLike(Sea other, int mermaid) {
            return row[MERMAID_X + mermaid] == other.row[MERMAID_X + mermaid]
                    && row[MERMAID_Y + mermaid] == other.row[MERMAID_Y + mermaid]
                    && row[STEP_X + mermaid] == other.row[STEP_X + mermaid]
                    && row[STEP_Y + mermaid] == other.row[STEP_Y + mermaid];
        }

        int farOf(int mermaid, int x, int y) {
            return farApart(row[MERMAID_X + mermaid], row[MERMAID_Y + mermaid], x, y);
        }
    }

    /** What a text tells and nothing changes, with the Sea that it begins with. */
    private static final class Book {
        int mermaids;
        int people;
        int strands;
        int pier;
        int seed;
        final long[] mermaidName;
        final long[] personName;
        final int[] weight;
        final int[] whose;
        final int[] length;
        final Laws laws;
        final Sea begin;

        Book() {
            mermaidName = new long[MOST_MERMAIDS];
            personName = new long[MOST_PEOPLE];
            weight = new int[MOST_PEOPLE];
            whose = new int[MOST_STRANDS];
            length = new int[MOST_STRANDS];
            laws = new Laws();
            begin = new Sea();
            pier = PIER_UNTOLD;
        }

        void clearAll() {
            mermaids = 0;
            people = 0;
            strands = 0;
            pier = PIER_UNTOLD;
            seed = 0;
            laws.clearAll();
            begin.clearAll();
        }

        int mermaidNamed(long name) {
            return indexOf(mermaidName, mermaids, name);
        }

        int personNamed(long name) {
            return indexOf(personName, people, name);
        }

        private static int indexOf(long[] names, int size, long name) {
            for (int i = 0; i < size && i < names.length; i++) {
                if (names[i] == name) {
                    return i;
                }
            }
            return NONE;
        }

        void addMermaid(long name, int x, int y, int stepX, int stepY) {
            if (mermaids < MOST_MERMAIDS) {
                mermaidName[mermaids] = name;
                begin.row[MERMAID_X + mermaids] = x;
                begin.row[MERMAID_Y + mermaids] = y;
                begin.row[STEP_X + mermaids] = stepX;
                begin.row[STEP_Y + mermaids] = stepY;
                mermaids++;
            }
        }

        void addPerson(long name, int x, int y, int heavy) {
            if (people < MOST_PEOPLE) {
                personName[people] = name;
                begin.row[PERSON_X + people] = x;
                begin.row[PERSON_Y + people] = y;
                weight[people] = heavy;
                people++;
            }
        }

        void addStrand(int mermaid, int wearer, int strandLength) {
            if (strands < MOST_STRANDS) {
                whose[strands] = mermaid;
                begin.row[WEARER + strands] = wearer;
                length[strands] = strandLength;
                strands++;
            }
        }
    }

    /**
     * The LAWS of a text, turned into codes in which a SIGN stands behind what it joins. The pieces
     * of a LAW (three an if, then the last one) stand one behind the other, so their bounds are kept.
     */
    private static final class Laws {
        private static final int BOUNDS = 3 * MOST_IFS + 2;
        /** A sum and a product may wait at each of the seven levels, and one UNIT is at hand. */
        private static final int STACK = 2 * (MOST_WITHIN + 1) + 1;

        final int[] vars;
        private final int[] codes;
        private int codesSize;
        private final int[] bounds;
        private final int[] pieces;
        private final int[] stack;
        private boolean divided;

        Laws() {
            vars = new int[VARS];
            codes = new int[MOST_TOKENS + LAWS];
            bounds = new int[LAWS * BOUNDS];
            pieces = new int[LAWS];
            stack = new int[STACK];
            clearAll();
        }

        void clearAll() {
            codesSize = 0;
            putUntold(PULL, VAR_CODE + LENGTH);
            putUntold(STANDS, VAR_CODE + WEIGHT);
            putUntold(PRICE, VAR_CODE + LENGTH);
            putUntold(STORM, 0);
        }

        private void putUntold(int law, int code) {
            open(law);
            put(code);
            endPiece(law);
        }

        void open(int law) {
            pieces[law] = 0;
            bounds[law * BOUNDS] = codesSize;
        }

        void put(int code) {
            if (codesSize < codes.length) {
                codes[codesSize] = code;
                codesSize++;
            }
        }

        void endPiece(int law) {
            if (pieces[law] < BOUNDS - 1) {
                pieces[law]++;
                bounds[law * BOUNDS + pieces[law]] = codesSize;
            }
        }

        /** What a LAW is with vars as they are, held to 0 .. most. */
        int held(int law, int most) {
            divided = false;
            int looked = pieces[law] - 1;
            for (int piece = 0; piece + 2 < pieces[law]; piece += 3) {
                int left = valueOf(law, piece);
                int right = valueOf(law, piece + 1);
                if (divided) {
                    return 0;
                }
                if (left < right) {
                    looked = piece + 2;
                    break;
                }
            }
            int value = valueOf(law, looked);
            return divided ? 0 : heldTo(most, value);
        }

        private int valueOf(int law, int piece) {
            if (piece < 0 || piece >= BOUNDS - 1) {
                return 0;
            }
            int end = bounds[law * BOUNDS + piece + 1];
            int top = 0;
            for (int i = bounds[law * BOUNDS + piece]; i < end && i < codes.length; i++) {
                int code = codes[i];
                if (code >= SIGN_CODE && top >= 2) {
                    top--;
                    stack[top - 1] = joined(code - SIGN_CODE, stack[top - 1], stack[top]);
                } else if (code < SIGN_CODE && top < STACK) {
                    stack[top] = code >= VAR_CODE ? vars[code - VAR_CODE] : code;
                    top++;
                }
            }
            return stack[0];
        }

        private int joined(int sign, int left, int right) {
            switch (sign) {
                case '+': return left + right;
                case '-': return left - right;
                case '*': return left * right;
                default:
                    if (right == 0) {
                        divided = true;
                        return 0;
                    }
                    return left / right;
            }
        }
    }

    /** A Book and a Sea by it: what pulls there, and how a MONTH goes by. */
    private static final class Waters {
        Book book;
        final Sea sea;
        int feltAcross;
        int feltDown;

        Waters(Book book, Sea sea) {
            this.book = book;
            this.sea = sea;
        }

        int wornBy(int person) {
            int worn = 0;
            for (int strand = 0; strand < book.strands; strand++) {
                if (sea.isWorn(strand, person)) {
                    worn++;
                }
            }
            return worn;
        }

        private int[] freshVars() {
            int[] vars = book.laws.vars;
            Arrays.fill(vars, 0);
            vars[MOON] = sea.month % 4;
            vars[MONTH] = sea.month;
            return vars;
        }

        /** The PULL of a STRAND as were it worn by that PERSON, standing there. */
        int pullAt(int strand, int person, int x, int y) {
            int far = sea.farOf(book.whose[strand], x, y);
            if (far == 0 || sea.isCut(strand) || sea.isDead(book.whose[strand]) || sea.isOff(person)) {
                return 0;
            }
            int[] vars = freshVars();
            vars[LENGTH] = book.length[strand];
            vars[FAR] = far;
            vars[WEIGHT] = book.weight[person];
            vars[WHICH] = strand;
            return book.laws.held(PULL, MOST_PULL);
        }

        int wayAcross(int strand, int x) {
            return wayTo(sea.row[MERMAID_X + book.whose[strand]], x);
        }

        int wayDown(int strand, int y) {
            return wayTo(sea.row[MERMAID_Y + book.whose[strand]], y);
        }

        /** By how much all that a PERSON wears would pull there, into feltAcross and feltDown. */
        void feel(int person, int x, int y) {
            feltAcross = 0;
            feltDown = 0;
            for (int strand = 0; strand < book.strands; strand++) {
                if (sea.isWorn(strand, person)) {
                    int pull = pullAt(strand, person, x, y);
                    feltAcross += pull * wayAcross(strand, x);
                    feltDown += pull * wayDown(strand, y);
                }
            }
        }

        private int[] varsOfPerson(int person, int x, int y) {
            int[] vars = freshVars();
            vars[WEIGHT] = book.weight[person];
            vars[ACROSS] = x;
            vars[DOWN] = y;
            vars[WEARS] = wornBy(person);
            return vars;
        }

        int standsAt(int person, int x, int y) {
            varsOfPerson(person, x, y);
            return book.laws.held(STANDS, MOST_STANDS);
        }

        int stormOf(int person) {
            varsOfPerson(person, sea.row[PERSON_X + person], sea.row[PERSON_Y + person]);
            return book.laws.held(STORM, MOST_STORM);
        }

        boolean isMovedAt(int person, int x, int y) {
            feel(person, x, y);
            int stands = standsAt(person, x, y);
            return Math.abs(feltAcross) > stands || Math.abs(feltDown) > stands;
        }

        int priceOf(int strand) {
            int wearer = sea.row[WEARER + strand];
            int[] vars = freshVars();
            vars[LENGTH] = book.length[strand];
            vars[WHICH] = strand;
            vars[WEARS] = wornBy(wearer);
            vars[FAR] = sea.farOf(book.whose[strand], sea.row[PERSON_X + wearer], sea.row[PERSON_Y + wearer]);
            return book.laws.held(PRICE, MOST_PRICE);
        }

        int pricesOfAll() {
            int sum = 0;
            for (int strand = 0; strand < book.strands; strand++) {
                if (!sea.isCut(strand)) {
                    sum += priceOf(strand);
                }
            }
            return sum;
        }

        /**
         * A MONTH in which of the PEOPLE those go who are asked for. Where a PERSON is matters to
         * nobody else: so the others can be left out, and one may go after the other, the MERMAIDS
         * last, and still each goes by how it was as the MONTH began.
         */
        void goMonth(int firstPerson, int behindLast, boolean storms) {
            for (int person = firstPerson; person < behindLast; person++) {
                if (!sea.isOff(person)) {
                    int x = sea.row[PERSON_X + person];
                    int y = sea.row[PERSON_Y + person];
                    boolean drowns = storms && seedsThatDrown(person, 1) != 0;
                    feel(person, x, y);
                    int stands = standsAt(person, x, y);
                    int toY = gone(y, feltDown, stands);
                    sea.row[PERSON_X + person] = gone(x, feltAcross, stands);
                    sea.row[PERSON_Y + person] = toY;
                    if (drowns || toY > book.pier) {
                        sea.off |= 1 << person;
                    }
                }
            }
            for (int mermaid = 0; mermaid < book.mermaids; mermaid++) {
                sea.swim(mermaid);
            }
            sea.month++;
        }

        private static int gone(int from, int pulled, int stands) {
            return Math.abs(pulled) > stands ? heldTo(LAST, from + wayTo(pulled, 0)) : from;
        }

        /** By which of so many SEEDS, from the text's on, a STORM drowns a PERSON this month, as bits. */
        int seedsThatDrown(int person, int seeds) {
            int storm = stormOf(person);
            int drowning = 0;
            for (int more = 0; more < seeds; more++) {
                if (lotOf100(book.seed + more, 16 * sea.month + person) < storm) {
                    drowning |= 1 << more;
                }
            }
            return drowning;
        }

        private static int lotOf100(int seed, int which) {
            int mixed = mixedOnce(mixedOnce(seed, 135), which);
            return (mixed >>> 1) % 100;
        }

        private static int mixedOnce(int h, int with) {
            int mixed = (h ^ with) * 1103515245 + 12345;
            return mixed ^ mixed >>> 15;
        }

        /** Behind how many MONTHS without STORMS somebody more is OFF, or NEVER. */
        int goUntilFirst() {
            int offBefore = sea.off;
            for (int behind = 1; behind < NEVER; behind++) {
                goMonth(0, book.people, false);
                if (sea.off != offBefore) {
                    return behind;
                }
            }
            return NEVER;
        }
    }

    /** How it was before each of the last things done. */
    private static final class History {
        private final Sea[] kept;
        private int next;
        int size;

        History() {
            kept = new Sea[MOST_UNDONE];
            for (int i = 0; i < MOST_UNDONE; i++) {
                kept[i] = new Sea();
            }
        }

        void clearAll() {
            size = 0;
        }

        void keep(Sea sea) {
            kept[next].copyFrom(sea);
            next = (next + 1) % MOST_UNDONE;
            size = Math.min(size + 1, MOST_UNDONE);
        }

        boolean takeBackInto(Sea sea) {
            if (size == 0) {
                return false;
            }
            size--;
            next = (next + MOST_UNDONE - 1) % MOST_UNDONE;
            sea.copyFrom(kept[next]);
            return true;
        }
    }

    /** What each STRAND would pull one PERSON by, and sets of STRANDS, as bits, that pull so much. */
    private static final class Plaits {
        private final int[] across;
        private final int[] down;
        private int strands;
        private int cutOnes;
        int found;
        int fewest;

        Plaits() {
            across = new int[MOST_STRANDS];
            down = new int[MOST_STRANDS];
        }

        void layOn(Waters waters, int person) {
            int x = waters.sea.row[PERSON_X + person];
            int y = waters.sea.row[PERSON_Y + person];
            strands = waters.book.strands;
            cutOnes = waters.sea.cutOnes;
            for (int strand = 0; strand < strands; strand++) {
                int pull = waters.pullAt(strand, person, x, y);
                across[strand] = pull * waters.wayAcross(strand, x);
                down[strand] = pull * waters.wayDown(strand, y);
            }
        }

        boolean areEven(int strand, int other) {
            boolean pulls = across[strand] != 0 || down[strand] != 0;
            return pulls && across[strand] == -across[other] && down[strand] == -down[other];
        }

        /** Finds the sets, from that one on, that pull by just so much; found and fewest tell of them. */
        void seek(int wantedAcross, int wantedDown, int firstSet) {
            found = 0;
            fewest = 0;
            for (int set = firstSet; set < 1 << strands; set++) {
                if ((set & cutOnes) == 0 && pullsBy(set, wantedAcross, wantedDown)) {
                    if (found == 0 || Integer.bitCount(set) < Integer.bitCount(fewest)) {
                        fewest = set;
                    }
                    found++;
                }
            }
        }

        private boolean pullsBy(int set, int wantedAcross, int wantedDown) {
            int leftAcross = wantedAcross;
            int leftDown = wantedDown;
            for (int strand = 0; strand < strands; strand++) {
                if ((set >> strand & 1) != 0) {
                    leftAcross -= across[strand];
                    leftDown -= down[strand];
                }
            }
            return leftAcross == 0 && leftDown == 0;
        }
    }

    /** What is TOLD, and where she may be by the first of it. */
    private static final class Told {
        private final int[] x;
        private final int[] y;
        private final int[] across;
        private final int[] down;
        int size;
        private final boolean[] open;
        private final int[] answers;
        int left;

        Told() {
            x = new int[MOST_TOLD];
            y = new int[MOST_TOLD];
            across = new int[MOST_TOLD];
            down = new int[MOST_TOLD];
            open = new boolean[PLACES];
            answers = new int[9];
        }

        void clearAll() {
            size = 0;
        }

        int add(int atX, int atY, int pulledAcross, int pulledDown) {
            if (size >= MOST_TOLD) {
                return NONE;
            }
            x[size] = atX;
            y[size] = atY;
            across[size] = pulledAcross;
            down[size] = pulledDown;
            size++;
            return size - 1;
        }

        /** Marks the places at which she may be by the first k, and counts them. */
        void lookBy(int k) {
            left = 0;
            for (int place = 0; place < PLACES; place++) {
                open[place] = fits(place, k);
                if (open[place]) {
                    left++;
                }
            }
        }

        private boolean fits(int place, int k) {
            for (int i = 0; i < k && i < size; i++) {
                if (wayTo(place % SIDE, x[i]) != across[i] || wayTo(place / SIDE, y[i]) != down[i]) {
                    return false;
                }
            }
            return true;
        }

        int firstLeft() {
            for (int place = 0; place < PLACES; place++) {
                if (open[place]) {
                    return place;
                }
            }
            return NOT;
        }

        int bestNext() {
            int best = 0;
            int fewest = PLACES + 1;
            for (int place = 0; place < PLACES; place++) {
                int worst = worstLeft(place);
                if (worst < fewest) {
                    fewest = worst;
                    best = place;
                }
            }
            return best;
        }

        private int worstLeft(int held) {
            Arrays.fill(answers, 0);
            int worst = 0;
            for (int place = 0; place < PLACES; place++) {
                if (open[place]) {
                    int answer = 4 + wayTo(place % SIDE, held % SIDE) + 3 * wayTo(place / SIDE, held / SIDE);
                    answers[answer]++;
                    worst = Math.max(worst, answers[answer]);
                }
            }
            return worst;
        }
    }

    /** A text's TOKENS up to the 401st, the last of them its end, or what is no TOKEN. */
    private static final class Tokens {
        final int[] kind;
        final int[] place;
        final long[] value;
        private final byte[] bytes;
        private int bytesSize;

        Tokens(byte[] tape) {
            bytes = tape;
            kind = new int[MOST_TOKENS + 1];
            place = new int[MOST_TOKENS + 1];
            value = new long[MOST_TOKENS + 1];
        }

        void split(int size) {
            bytesSize = Math.min(size, bytes.length);
            int from = 0;
            for (int i = 0; i <= MOST_TOKENS; i++) {
                from = behindBlanks(from);
                place[i] = from;
                from = takeOne(i, from);
                if (kind[i] == TEXT_END || kind[i] == NO_TOKEN) {
                    return;
                }
            }
        }

        private int behindBlanks(int from) {
            int at = from;
            while (at < bytesSize && (bytes[at] == 32 || bytes[at] == 9 || bytes[at] == 10 || bytes[at] == 13)) {
                at++;
            }
            return at;
        }

        private int takeOne(int i, int from) {
            if (from >= bytesSize) {
                kind[i] = TEXT_END;
                return from;
            }
            if (isLetter(from)) {
                return takeLetters(i, from);
            }
            if (isDigit(from)) {
                return takeDigits(i, from);
            }
            int sign = bytes[from];
            kind[i] = sign > 0 && SIGNS.indexOf((char) sign) >= 0 ? sign : NO_TOKEN;
            return from + 1;
        }

        private boolean isLetter(int at) {
            return bytes[at] >= 'a' && bytes[at] <= 'z';
        }

        private boolean isDigit(int at) {
            return bytes[at] >= '0' && bytes[at] <= '9';
        }

        private int takeLetters(int i, int from) {
            int at = from;
            long letters = 0;
            while (at < bytesSize && isLetter(at)) {
                letters = letters * 32 + (bytes[at] - 'a' + 1);
                at++;
            }
            value[i] = letters;
            kind[i] = at - from > MOST_LETTERS ? NO_TOKEN : wordOf(letters);
            return at;
        }

        private int takeDigits(int i, int from) {
            int at = from;
            long number = 0;
            while (at < bytesSize && isDigit(at)) {
                number = number * 10 + (bytes[at] - '0');
                at++;
            }
            value[i] = number;
            kind[i] = at - from > MOST_DIGITS ? NO_TOKEN : INT;
            return at;
        }

        private static int wordOf(long letters) {
            int word = 0;
            long spelt = 0;
            for (int i = 0; i < WORDS.length(); i++) {
                if (WORDS.charAt(i) != ' ') {
                    spelt = spelt * 32 + (WORDS.charAt(i) - 'a' + 1);
                } else if (spelt == letters) {
                    return word;
                } else {
                    word++;
                    spelt = 0;
                }
            }
            return NAME;
        }
    }

    /**
     * Reads a text into a Book. A FAULT of syntax or room stops it; behind one, no TOKEN is at hand
     * and nothing more is taken. The first FAULT of meaning is kept, as it counts only if the whole
     * text has none of the others.
     */
    private static final class Reader {
        private static final int STUCK = -1;

        private final Tokens tokens;
        private Book book;
        private int next;
        private int fault;
        int faultAt;
        private int meaningFault;
        private int meaningFaultAt;

        Reader(byte[] tape, Book into) {
            tokens = new Tokens(tape);
            book = into;
            faultAt = NONE;
        }

        int readText(int size, Book into) {
            tokens.split(size);
            book = into;
            book.clearAll();
            next = 0;
            fault = 0;
            faultAt = NONE;
            meaningFault = 0;
            for (int tells = 0; tells <= MOST_TOKENS && fault == 0 && atHand() != TEXT_END; tells++) {
                int word = atHand();
                switch (word) {
                    case MERMAID_WORD: readMermaid(); break;
                    case PERSON_WORD: readPerson(); break;
                    case STRAND_WORD: readStrand(); break;
                    case PIER_WORD: readPier(); break;
                    case SEED_WORD: readSeed(); break;
                    default: readLaw(word); break;
                }
            }
            if (fault == 0 && meaningFault != 0) {
                fault = meaningFault;
                faultAt = meaningFaultAt;
            }
            return fault;
        }

        private int atHand() {
            return fault == 0 ? tokens.kind[next] : STUCK;
        }

        private void refuse(int number) {
            if (fault == 0) {
                fault = number;
                faultAt = tokens.place[next];
            }
        }

        private void mark(int number, int token) {
            if (meaningFault == 0) {
                meaningFault = number;
                meaningFaultAt = tokens.place[token];
            }
        }

        /** Goes over the TOKEN at hand, which is to be of that kind; its number among all of them. */
        private int take(int kind) {
            if (atHand() != kind) {
                refuse(SYNTAX);
            } else if (next >= MOST_TOKENS) {
                refuse(ROOM);
            } else {
                next++;
                return next - 1;
            }
            return next;
        }

        private long takeNewName() {
            int token = take(NAME);
            long name = tokens.value[token];
            if (book.mermaidNamed(name) != NONE || book.personNamed(name) != NONE) {
                mark(TWICE, token);
            }
            return name;
        }

        private int takeNumber(int sign, int least, int most) {
            int token = take(INT);
            int number = sign * (int) tokens.value[token];
            if (number < least || number > most) {
                mark(WRONG, token);
            }
            return number;
        }

        private int takeStep() {
            int sign = 1;
            if (atHand() == '-') {
                take('-');
                sign = -1;
            }
            return takeNumber(sign, -MOST_STEP, MOST_STEP);
        }

        private void readMermaid() {
            if (book.mermaids >= MOST_MERMAIDS) {
                refuse(ROOM);
            }
            take(MERMAID_WORD);
            long name = takeNewName();
            int x = takeNumber(1, 0, LAST);
            int y = takeNumber(1, 0, LAST);
            int stepX = takeStep();
            int stepY = takeStep();
            take(';');
            book.addMermaid(name, x, y, stepX, stepY);
        }

        private void readPerson() {
            if (book.people >= MOST_PEOPLE) {
                refuse(ROOM);
            }
            take(PERSON_WORD);
            long name = takeNewName();
            int x = takeNumber(1, 0, LAST);
            int y = takeNumber(1, 0, LAST);
            int weight = takeNumber(1, 1, MOST_WEIGHT);
            take(';');
            book.addPerson(name, x, y, weight);
        }

        private void readStrand() {
            if (book.strands >= MOST_STRANDS) {
                refuse(ROOM);
            }
            take(STRAND_WORD);
            int whoseToken = take(NAME);
            int whose = book.mermaidNamed(tokens.value[whoseToken]);
            if (whose == NONE) {
                mark(NO_NAME, whoseToken);
            }
            int wearerToken = take(NAME);
            int wearer = book.personNamed(tokens.value[wearerToken]);
            if (wearer == NONE) {
                mark(NO_NAME, wearerToken);
            }
            int length = takeNumber(1, 1, MOST_LENGTH);
            take(';');
            book.addStrand(whose, wearer, length);
        }

        private void readPier() {
            take(PIER_WORD);
            book.pier = takeNumber(1, 0, LAST);
            take(';');
        }

        private void readSeed() {
            take(SEED_WORD);
            book.seed = takeNumber(1, 0, MOST_SEED);
            take(';');
        }

        private void readLaw(int word) {
            if (word < PULL_WORD || word > STORM_WORD) {
                refuse(SYNTAX);
                return;
            }
            int law = word - PULL_WORD;
            take(word);
            take('=');
            book.laws.open(law);
            for (int ifs = 0; ifs <= MOST_IFS && atHand() == IF_WORD; ifs++) {
                if (ifs == MOST_IFS) {
                    refuse(ROOM);
                }
                take(IF_WORD);
                readSum(0);
                book.laws.endPiece(law);
                take('<');
                readSum(0);
                book.laws.endPiece(law);
                take(THEN_WORD);
                readSum(0);
                book.laws.endPiece(law);
                take(ELSE_WORD);
            }
            readSum(0);
            book.laws.endPiece(law);
            take(';');
        }

        private void readSum(int within) {
            readProduct(within);
            for (int i = 0; i < MOST_TOKENS && (atHand() == '+' || atHand() == '-'); i++) {
                int sign = atHand();
                take(sign);
                readProduct(within);
                book.laws.put(SIGN_CODE + sign);
            }
        }

        private void readProduct(int within) {
            readUnit(within);
            for (int i = 0; i < MOST_TOKENS && (atHand() == '*' || atHand() == '/'); i++) {
                int sign = atHand();
                take(sign);
                readUnit(within);
                book.laws.put(SIGN_CODE + sign);
            }
        }

        private void readUnit(int within) {
            int kind = atHand();
            if (kind == INT) {
                book.laws.put((int) tokens.value[take(INT)]);
            } else if (kind >= LENGTH_WORD && kind <= WEARS_WORD) {
                take(kind);
                book.laws.put(VAR_CODE + kind - LENGTH_WORD);
            } else if (kind != '(') {
                refuse(SYNTAX);
            } else if (within >= MOST_WITHIN) {
                refuse(ROOM);
            } else {
                take('(');
                readSum(within + 1);
                take(')');
            }
        }
    }
}
