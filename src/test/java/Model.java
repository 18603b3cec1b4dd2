import java.util.ArrayList;
import java.util.HashMap;
import java.util.List;
import java.util.Map;
import java.util.Set;

/**
 * The document told a second time, with no thought of speed or of the language's rules, so that
 * SeaHair can be held against it. It shares no code with SeaHair.
 */
final class Model {
    // ---- texts

    record Token(char sort, String text, int at) { }

    record Fault(int number, int at) { }

    static final class Stop extends RuntimeException {
        final transient Fault fault;

        Stop(int number, int at) {
            super(null, null, false, false);
            fault = new Fault(number, at);
        }
    }

    interface Expr {
        int value(Map<String, Integer> vars);
    }

    static final class Zero extends RuntimeException {
        Zero() {
            super(null, null, false, false);
        }
    }

    record Clause(Expr left, Expr right, Expr then) { }

    record Law(List<Clause> ifs, Expr last) {
        int value(Map<String, Integer> vars, int most) {
            int value;
            try {
                value = bare(vars);
            } catch (Zero zero) {
                value = 0;
            }
            return value < 0 ? 0 : value > most ? most : value;
        }

        private int bare(Map<String, Integer> vars) {
            for (Clause clause : ifs) {
                if (clause.left.value(vars) < clause.right.value(vars)) {
                    return clause.then.value(vars);
                }
            }
            return last.value(vars);
        }
    }

    static final Set<String> WORDS = Set.of("mermaid", "person", "strand", "pull", "stands", "price", "storm", "pier",
            "seed", "if", "then", "else", "length", "far", "moon", "month", "weight", "across", "down", "which", "wears");
    static final Set<String> VARS = Set.of("length", "far", "moon", "month", "weight", "across", "down", "which", "wears");

    /** All TOKENS, each a 'w'ord, 'n'ame, 'i'nt, 's'ign, and last the 'e'nd or a 'b'ad one. */
    static List<Token> tokens(String text) {
        List<Token> all = new ArrayList<>();
        int at = 0;
        while (true) {
            while (at < text.length() && "\t\n\r ".indexOf(text.charAt(at)) >= 0) {
                at++;
            }
            if (at == text.length()) {
                all.add(new Token('e', "", at));
                return all;
            }
            String rest = text.substring(at);
            String letters = rest.replaceAll("(?s)[^a-z].*", "");
            String digits = rest.replaceAll("(?s)[^0-9].*", "");
            Token token;
            if (!letters.isEmpty()) {
                token = new Token(letters.length() > 8 ? 'b' : WORDS.contains(letters) ? 'w' : 'n', letters, at);
            } else if (!digits.isEmpty()) {
                token = new Token(digits.length() > 4 ? 'b' : 'i', digits, at);
            } else {
                token = new Token(";=+-*/<()".indexOf(rest.charAt(0)) >= 0 ? 's' : 'b', rest.substring(0, 1), at);
            }
            all.add(token);
            if (token.sort == 'b') {
                return all;
            }
            at += token.text.length();
        }
    }

    static final class Mermaid implements Cloneable {
        int x;
        int y;
        int dx;
        int dy;
        boolean dead;

        Mermaid copy() {
            try {
                return (Mermaid) clone();
            } catch (CloneNotSupportedException e) {
                throw new IllegalStateException(e);
            }
        }

        void swim() {
            if (dead) {
                return;
            }
            x += dx;
            y += dy;
            if (x < 0 || x > 9) {
                x = x < 0 ? -x : 9 - (x - 9);
                dx = -dx;
            }
            if (y < 0 || y > 9) {
                y = y < 0 ? -y : 9 - (y - 9);
                dy = -dy;
            }
        }
    }

    static final class Person implements Cloneable {
        int x;
        int y;
        int weight;
        boolean off;

        Person copy() {
            try {
                return (Person) clone();
            } catch (CloneNotSupportedException e) {
                throw new IllegalStateException(e);
            }
        }
    }

    static final class Strand implements Cloneable {
        int whose;
        int wearer;
        int length;
        boolean cut;

        Strand copy() {
            try {
                return (Strand) clone();
            } catch (CloneNotSupportedException e) {
                throw new IllegalStateException(e);
            }
        }
    }

    /** A text that was read, and what goes on by it. */
    static final class World {
        List<Mermaid> mermaids = new ArrayList<>();
        List<Person> people = new ArrayList<>();
        List<Strand> strands = new ArrayList<>();
        Law pull = new Law(List.of(), v -> v.get("length"));
        Law stands = new Law(List.of(), v -> v.get("weight"));
        Law price = new Law(List.of(), v -> v.get("length"));
        Law storm = new Law(List.of(), v -> 0);
        int pier = 4;
        int seed = 0;
        int month = 0;

        World copy() {
            World w = new World();
            mermaids.forEach(m -> w.mermaids.add(m.copy()));
            people.forEach(p -> w.people.add(p.copy()));
            strands.forEach(s -> w.strands.add(s.copy()));
            w.pull = pull;
            w.stands = stands;
            w.price = price;
            w.storm = storm;
            w.pier = pier;
            w.seed = seed;
            w.month = month;
            return w;
        }

        Map<String, Integer> vars() {
            Map<String, Integer> vars = new HashMap<>();
            for (String var : VARS) {
                vars.put(var, 0);
            }
            vars.put("moon", month % 4);
            vars.put("month", month);
            return vars;
        }

        int wears(int p) {
            return (int) strands.stream().filter(s -> s.wearer == p && !s.cut).count();
        }

        int far(int s, int x, int y) {
            Mermaid m = mermaids.get(strands.get(s).whose);
            return Math.max(Math.abs(m.x - x), Math.abs(m.y - y));
        }

        int far(int s) {
            Person p = people.get(strands.get(s).wearer);
            return far(s, p.x, p.y);
        }

        /** How a STRAND worn by p, who is at x, y, pulls: how much, across, down. */
        int[] pulls(int s, int p, int x, int y) {
            Strand strand = strands.get(s);
            Mermaid m = mermaids.get(strand.whose);
            int far = far(s, x, y);
            if (m.dead || strand.cut || people.get(p).off || far == 0) {
                return new int[] {0, 0, 0};
            }
            Map<String, Integer> vars = vars();
            vars.put("length", strand.length);
            vars.put("far", far);
            vars.put("weight", people.get(p).weight);
            vars.put("which", s);
            int much = pull.value(vars, 99);
            return new int[] {much, m.x > x ? much : m.x < x ? -much : 0, m.y > y ? much : m.y < y ? -much : 0};
        }

        int[] pulled(int p, int x, int y) {
            int[] sum = new int[2];
            for (int s = 0; s < strands.size(); s++) {
                if (strands.get(s).wearer == p) {
                    int[] one = pulls(s, p, x, y);
                    sum[0] += one[1];
                    sum[1] += one[2];
                }
            }
            return sum;
        }

        private Map<String, Integer> varsOf(int p, int x, int y) {
            Map<String, Integer> vars = vars();
            vars.put("weight", people.get(p).weight);
            vars.put("across", x);
            vars.put("down", y);
            vars.put("wears", wears(p));
            return vars;
        }

        int stands(int p, int x, int y) {
            return stands.value(varsOf(p, x, y), 999);
        }

        int storm(int p) {
            return storm.value(varsOf(p, people.get(p).x, people.get(p).y), 100);
        }

        int price(int s) {
            Map<String, Integer> vars = vars();
            vars.put("length", strands.get(s).length);
            vars.put("which", s);
            vars.put("wears", wears(strands.get(s).wearer));
            vars.put("far", far(s));
            return price.value(vars, 999);
        }

        int prices() {
            int sum = 0;
            for (int s = 0; s < strands.size(); s++) {
                sum += strands.get(s).cut ? 0 : price(s);
            }
            return sum;
        }

        boolean moved(int p, int x, int y) {
            int[] pulled = pulled(p, x, y);
            int stands = stands(p, x, y);
            return !people.get(p).off && (Math.abs(pulled[0]) > stands || Math.abs(pulled[1]) > stands);
        }

        boolean moved(int p) {
            return moved(p, people.get(p).x, people.get(p).y);
        }

        /** The world one month on; this one stays as it is. */
        World next(boolean storms, int bySeed) {
            World w = copy();
            for (int p = 0; p < people.size(); p++) {
                Person before = people.get(p);
                Person after = w.people.get(p);
                if (before.off) {
                    continue;
                }
                int[] pulled = pulled(p, before.x, before.y);
                int stands = stands(p, before.x, before.y);
                if (pulled[0] > stands) {
                    after.x = Math.min(9, before.x + 1);
                } else if (-pulled[0] > stands) {
                    after.x = Math.max(0, before.x - 1);
                }
                if (pulled[1] > stands) {
                    after.y = Math.min(9, before.y + 1);
                } else if (-pulled[1] > stands) {
                    after.y = Math.max(0, before.y - 1);
                }
                if (after.y > pier) {
                    after.off = true;
                } else if (storms && lot(100, bySeed, 16 * month + p) < storm(p)) {
                    after.off = true;
                }
            }
            w.mermaids.forEach(Mermaid::swim);
            w.month++;
            return w;
        }

        World in(int n, boolean storms, int bySeed) {
            World w = this;
            for (int i = 0; i < n; i++) {
                w = w.next(storms, bySeed);
            }
            return w;
        }

        /** FIRST: months and who; months 1000 for nobody. */
        int[] firstOff() {
            World w = this;
            for (int m = 1; m <= 100; m++) {
                w = w.next(false, 0);
                for (int p = 0; p < people.size(); p++) {
                    if (w.people.get(p).off && !people.get(p).off) {
                        return new int[] {m, p};
                    }
                }
            }
            return new int[] {1000, -2};
        }
    }

    static int lot(int n, int seed, int which) {
        int h = seed;
        for (int it : new int[] {135, which}) {
            h = (h ^ it) * 1103515245 + 12345;
            h = h ^ (h >>> 15);
        }
        return (h >>> 1) % n;
    }

    /** Reads one text: all the FAULTS that it comes by, of which the least by place counts. */
    static final class Parser {
        final List<Token> tokens;
        int at = 0;
        final List<Fault> room = new ArrayList<>();
        final List<Fault> meaning = new ArrayList<>();
        final List<String> mermaidNames = new ArrayList<>();
        final List<String> peopleNames = new ArrayList<>();
        final World world = new World();

        Parser(String text) {
            tokens = tokens(text);
        }

        Fault fault() {
            Fault best = null;
            try {
                while (tokens.get(at).sort != 'e') {
                    tell();
                }
            } catch (Stop stop) {
                best = stop.fault;
            }
            if (tokens.size() > 400 && tokens.get(400).sort != 'e' && tokens.get(400).sort != 'b') {
                room.add(new Fault(2, tokens.get(400).at));
            }
            for (Fault fault : room) {
                if (best == null || fault.at < best.at) {
                    best = fault;
                }
            }
            if (best != null) {
                return best;
            }
            for (Fault fault : meaning) {
                if (best == null || fault.at < best.at || fault.at == best.at && fault.number < best.number) {
                    best = fault;
                }
            }
            return best;
        }

        boolean is(String text) {
            Token token = tokens.get(at);
            return (token.sort == 'w' || token.sort == 's') && token.text.equals(text);
        }

        Token next(String text) {
            if (!is(text)) {
                throw new Stop(1, tokens.get(at).at);
            }
            return tokens.get(at++);
        }

        Token sort(char sort) {
            if (tokens.get(at).sort != sort) {
                throw new Stop(1, tokens.get(at).at);
            }
            return tokens.get(at++);
        }

        int number(int sign, int least, int most) {
            Token token = sort('i');
            int number = sign * Integer.parseInt(token.text);
            if (number < least || number > most) {
                meaning.add(new Fault(5, token.at));
            }
            return number;
        }

        int step() {
            if (is("-")) {
                next("-");
                return number(-1, -3, 3);
            }
            return number(1, -3, 3);
        }

        void newName(List<String> into) {
            Token token = sort('n');
            if (mermaidNames.contains(token.text) || peopleNames.contains(token.text)) {
                meaning.add(new Fault(3, token.at));
            }
            into.add(token.text);
        }

        int oldName(List<String> among) {
            Token token = sort('n');
            if (!among.contains(token.text)) {
                meaning.add(new Fault(4, token.at));
            }
            return among.indexOf(token.text);
        }

        void tell() {
            Token word = tokens.get(at);
            if (word.sort != 'w') {
                throw new Stop(1, word.at);
            }
            at++;
            switch (word.text) {
                case "mermaid" -> {
                    if (mermaidNames.size() >= 4) {
                        room.add(new Fault(2, word.at));
                    }
                    newName(mermaidNames);
                    Mermaid m = new Mermaid();
                    m.x = number(1, 0, 9);
                    m.y = number(1, 0, 9);
                    m.dx = step();
                    m.dy = step();
                    world.mermaids.add(m);
                }
                case "person" -> {
                    if (peopleNames.size() >= 6) {
                        room.add(new Fault(2, word.at));
                    }
                    newName(peopleNames);
                    Person p = new Person();
                    p.x = number(1, 0, 9);
                    p.y = number(1, 0, 9);
                    p.weight = number(1, 1, 99);
                    world.people.add(p);
                }
                case "strand" -> {
                    if (world.strands.size() >= 8) {
                        room.add(new Fault(2, word.at));
                    }
                    Strand s = new Strand();
                    s.whose = oldName(mermaidNames);
                    s.wearer = oldName(peopleNames);
                    s.length = number(1, 1, 9);
                    world.strands.add(s);
                }
                case "pull" -> world.pull = law();
                case "stands" -> world.stands = law();
                case "price" -> world.price = law();
                case "storm" -> world.storm = law();
                case "pier" -> world.pier = number(1, 0, 9);
                case "seed" -> world.seed = number(1, 0, 9999);
                default -> throw new Stop(1, word.at);
            }
            next(";");
        }

        Law law() {
            next("=");
            List<Clause> ifs = new ArrayList<>();
            while (is("if")) {
                if (ifs.size() >= 4) {
                    room.add(new Fault(2, tokens.get(at).at));
                }
                next("if");
                Expr left = expr(0);
                next("<");
                Expr right = expr(0);
                next("then");
                Expr then = expr(0);
                next("else");
                ifs.add(new Clause(left, right, then));
            }
            return new Law(ifs, expr(0));
        }

        Expr expr(int depth) {
            Expr sum = part(depth);
            while (is("+") || is("-")) {
                boolean plus = is("+");
                at++;
                Expr left = sum;
                Expr right = part(depth);
                sum = plus ? v -> left.value(v) + right.value(v) : v -> left.value(v) - right.value(v);
            }
            return sum;
        }

        Expr part(int depth) {
            Expr product = unit(depth);
            while (is("*") || is("/")) {
                boolean times = is("*");
                at++;
                Expr left = product;
                Expr right = unit(depth);
                product = times ? v -> left.value(v) * right.value(v) : v -> divided(left.value(v), right.value(v));
            }
            return product;
        }

        static int divided(int left, int right) {
            if (right == 0) {
                throw new Zero();
            }
            return (int) ((long) left / right);
        }

        Expr unit(int depth) {
            Token token = tokens.get(at);
            if (token.sort == 'i') {
                at++;
                int number = Integer.parseInt(token.text);
                return v -> number;
            }
            if (token.sort == 'w' && VARS.contains(token.text)) {
                at++;
                return v -> v.get(token.text);
            }
            next("(");
            if (depth == 6) {
                room.add(new Fault(2, token.at));
            }
            Expr inner = expr(depth + 1);
            next(")");
            return inner;
        }
    }

    // ---- the object

    private final StringBuilder tape = new StringBuilder();
    private int place = -1;
    private World w = new World();
    private final List<World> done = new ArrayList<>();
    private final World[] slots = new World[3];
    private final List<int[]> told = new ArrayList<>();

    int feed(int a, int b, int c, int d, int e) {
        if (tape.length() + 20 > 2000) {
            return -1;
        }
        for (int word : new int[] {a, b, c, d, e}) {
            for (int i = 3; i >= 0; i--) {
                tape.append((char) (word >> 8 * i & 255));
            }
        }
        return tape.length();
    }

    int back(int n) {
        if (n < 0 || n > tape.length()) {
            return -1;
        }
        tape.setLength(tape.length() - n);
        return tape.length();
    }

    int read() {
        Parser parser = new Parser(tape.toString());
        tape.setLength(0);
        Fault fault = parser.fault();
        if (fault != null) {
            place = fault.at;
            return fault.number;
        }
        place = -1;
        w = parser.world;
        done.clear();
        told.clear();
        slots[0] = slots[1] = slots[2] = null;
        return 0;
    }

    int place() {
        return place;
    }

    private static boolean in(int n, int least, int most) {
        return n >= least && n <= most;
    }

    private boolean m(int i) {
        return in(i, 0, w.mermaids.size() - 1);
    }

    private boolean p(int i) {
        return in(i, 0, w.people.size() - 1);
    }

    private boolean s(int i) {
        return in(i, 0, w.strands.size() - 1);
    }

    int mermaid(int mermaid, int what) {
        if (!m(mermaid) || !in(what, 0, 4)) {
            return -100;
        }
        Mermaid m = w.mermaids.get(mermaid);
        return new int[] {m.x, m.y, m.dx, m.dy, m.dead ? 0 : 1}[what];
    }

    int person(int person, int what) {
        if (!p(person) || !in(what, 0, 8)) {
            return -100000;
        }
        Person p = w.people.get(person);
        int[] pulled = w.pulled(person, p.x, p.y);
        return new int[] {p.x, p.y, p.weight, p.off ? 1 : 0, pulled[0], pulled[1], w.stands(person, p.x, p.y),
            w.storm(person), w.wears(person)}[what];
    }

    int strand(int strand, int what) {
        if (!s(strand) || !in(what, 0, 6)) {
            return -1;
        }
        Strand s = w.strands.get(strand);
        Person p = w.people.get(s.wearer);
        return new int[] {s.whose, s.wearer, s.length, s.cut ? 1 : 0, w.pulls(strand, s.wearer, p.x, p.y)[0],
            w.price(strand), w.far(strand)}[what];
    }

    private void keep() {
        done.add(w.copy());
        if (done.size() > 40) {
            done.remove(0);
        }
    }

    boolean hand(int strand, int person) {
        if (!s(strand) || !p(person) || w.strands.get(strand).cut || w.strands.get(strand).wearer == person
                || w.people.get(person).off) {
            return false;
        }
        keep();
        w.strands.get(strand).wearer = person;
        return true;
    }

    boolean cut(int strand) {
        if (!s(strand) || w.strands.get(strand).cut) {
            return false;
        }
        keep();
        w.strands.get(strand).cut = true;
        return true;
    }

    boolean die(int mermaid) {
        if (!m(mermaid) || w.mermaids.get(mermaid).dead) {
            return false;
        }
        keep();
        w.mermaids.get(mermaid).dead = true;
        return true;
    }

    int months(int n) {
        if (!in(n, 0, 60)) {
            return -1;
        }
        if (n > 0) {
            keep();
            w = w.in(n, true, w.seed);
        }
        return w.month;
    }

    boolean undo() {
        if (done.isEmpty()) {
            return false;
        }
        w = done.remove(done.size() - 1);
        return true;
    }

    int then(int person, int n, int what) {
        if (!p(person) || !in(n, 0, 60) || !in(what, 0, 2)) {
            return -1;
        }
        Person p = w.in(n, true, w.seed).people.get(person);
        return what == 0 ? p.x : what == 1 ? p.y : p.off ? 1 : 0;
    }

    int swims(int mermaid, int n, int what) {
        if (!m(mermaid) || !in(n, 0, 60) || !in(what, 0, 1)) {
            return -1;
        }
        Mermaid m = w.in(n, true, w.seed).mermaids.get(mermaid);
        return what == 0 ? m.x : m.y;
    }

    int first(int what) {
        if (!in(what, 0, 1)) {
            return -1;
        }
        int[] first = w.firstOff();
        return first[0] == 1000 ? -2 : first[what];
    }

    int near(int mermaid, int person, int d) {
        if (!m(mermaid) || !p(person) || !in(d, 0, 9)) {
            return -1;
        }
        Person p = w.people.get(person);
        World then = w;
        for (int n = 0; n <= 100; n++) {
            Mermaid m = then.mermaids.get(mermaid);
            if (Math.abs(m.x - p.x) <= d && Math.abs(m.y - p.y) <= d) {
                return n;
            }
            then = then.next(false, 0);
        }
        return -2;
    }

    /** All sets of STRANDS not cut, as bits, that pull p by just so much. */
    private List<Integer> sets(int person, int across, int down) {
        List<Integer> sets = new ArrayList<>();
        Person p = w.people.get(person);
        for (int set = 0; set < 1 << w.strands.size(); set++) {
            int a = 0;
            int d = 0;
            boolean whole = true;
            for (int s = 0; s < w.strands.size(); s++) {
                if ((set & 1 << s) != 0) {
                    whole &= !w.strands.get(s).cut;
                    int[] one = w.pulls(s, person, p.x, p.y);
                    a += one[1];
                    d += one[2];
                }
            }
            if (whole && a == across && d == down) {
                sets.add(set);
            }
        }
        return sets;
    }

    private static int leastOfFewest(List<Integer> sets) {
        return sets.stream().min((a, b) -> Integer.bitCount(a) != Integer.bitCount(b)
            ? Integer.bitCount(a) - Integer.bitCount(b) : a - b).orElse(-2);
    }

    int plait(int person, int across, int down, int what) {
        if (!p(person) || !in(across, -999, 999) || !in(down, -999, 999) || !in(what, 0, 1)) {
            return -1;
        }
        if (w.people.get(person).off) {
            return -2;
        }
        int best = leastOfFewest(sets(person, across, down));
        return best < 0 || what == 1 ? best : Integer.bitCount(best);
    }

    int turns(int person, int n) {
        if (!p(person) || !in(n, 0, 60)) {
            return -1;
        }
        int turns = 0;
        World then = w;
        for (int i = 0; i < n; i++) {
            turns += then.moved(person) ? 1 : 0;
            then = then.next(false, 0);
        }
        return turns;
    }

    int strongest(int person, int what) {
        if (!p(person) || !in(what, 0, 1)) {
            return -1;
        }
        int best = -2;
        for (int s = 0; s < w.strands.size(); s++) {
            if (w.strands.get(s).wearer == person && !w.strands.get(s).cut
                    && (best < 0 || strand(s, 4) > strand(best, 4))) {
                best = s;
            }
        }
        return best < 0 || what == 0 ? best : strand(best, 4);
    }

    int again(int mermaid) {
        if (!m(mermaid)) {
            return -1;
        }
        if (w.mermaids.get(mermaid).dead) {
            return 1;
        }
        Mermaid is = w.mermaids.get(mermaid);
        Mermaid then = is.copy();
        for (int n = 1; n <= 36; n++) {
            then.swim();
            if (then.x == is.x && then.y == is.y && then.dx == is.dx && then.dy == is.dy) {
                return n;
            }
        }
        return -2;
    }

    int passing(int mermaid, int other, int d) {
        if (!m(mermaid) || !m(other) || mermaid == other || !in(d, 0, 9)) {
            return -1;
        }
        Mermaid one = w.mermaids.get(mermaid).copy();
        Mermaid two = w.mermaids.get(other).copy();
        for (int n = 0; n <= 100; n++) {
            if (Math.abs(one.x - two.x) <= d && Math.abs(one.y - two.y) <= d) {
                return n;
            }
            one.swim();
            two.swim();
        }
        return -2;
    }

    int even(int person) {
        if (!p(person)) {
            return -1;
        }
        int pairs = 0;
        Person p = w.people.get(person);
        for (int a = 0; a < w.strands.size(); a++) {
            for (int b = 0; b < a; b++) {
                Strand one = w.strands.get(a);
                Strand two = w.strands.get(b);
                if (one.wearer == person && two.wearer == person && !one.cut && !two.cut) {
                    int[] by = w.pulls(a, person, p.x, p.y);
                    int[] against = w.pulls(b, person, p.x, p.y);
                    if (by[0] > 0 && by[1] + against[1] == 0 && by[2] + against[2] == 0) {
                        pairs++;
                    }
                }
            }
        }
        return pairs;
    }

    int market(int n) {
        return in(n, 0, 60) ? w.in(n, false, 0).prices() : -1;
    }

    int nothing(int person, int what) {
        if (!p(person) || !in(what, 0, 1)) {
            return -1;
        }
        List<Integer> sets = w.people.get(person).off ? new ArrayList<>() : sets(person, 0, 0);
        sets.remove(Integer.valueOf(0));
        return what == 0 ? sets.size() : leastOfFewest(sets);
    }

    int safe(int person, int what) {
        if (!p(person) || !in(what, 0, 1)) {
            return -1;
        }
        Person p = w.people.get(person);
        if (p.off) {
            return -3;
        }
        int places = 0;
        int best = -2;
        int bestFar = 100;
        for (int y = 0; y <= w.pier; y++) {
            for (int x = 0; x <= 9; x++) {
                if (!w.moved(person, x, y)) {
                    places++;
                    int far = Math.max(Math.abs(x - p.x), Math.abs(y - p.y));
                    if (far < bestFar) {
                        bestFar = far;
                        best = 10 * y + x;
                    }
                }
            }
        }
        return what == 0 ? places : best;
    }

    int cutBest() {
        int best = -2;
        int latest = w.firstOff()[0];
        for (int s = 0; s < w.strands.size(); s++) {
            if (!w.strands.get(s).cut) {
                World other = w.copy();
                other.strands.get(s).cut = true;
                int first = other.firstOff()[0];
                if (first > latest) {
                    latest = first;
                    best = s;
                }
            }
        }
        return best;
    }

    int worth(int person) {
        if (!p(person)) {
            return -1;
        }
        int sum = 0;
        for (int s = 0; s < w.strands.size(); s++) {
            if (w.strands.get(s).wearer == person && !w.strands.get(s).cut) {
                sum += w.price(s);
            }
        }
        return sum;
    }

    int give(int strand) {
        if (!s(strand)) {
            return -1;
        }
        int best = -2;
        int latest = w.firstOff()[0];
        for (int p = 0; p < w.people.size() && !w.strands.get(strand).cut; p++) {
            if (w.strands.get(strand).wearer != p && !w.people.get(p).off) {
                World other = w.copy();
                other.strands.get(strand).wearer = p;
                int first = other.firstOff()[0];
                if (first > latest) {
                    latest = first;
                    best = p;
                }
            }
        }
        return best;
    }

    int year(int person, int n, int s) {
        if (!p(person) || !in(n, 0, 60) || !in(s, 1, 20)) {
            return -1;
        }
        int stood = 0;
        for (int seed = w.seed; seed < w.seed + s; seed++) {
            stood += w.in(n, true, seed).people.get(person).off ? 0 : 1;
        }
        return stood;
    }

    int tell(int x, int y, int across, int down) {
        if (told.size() == 20 || !in(x, 0, 9) || !in(y, 0, 9) || !in(across, -1, 1) || !in(down, -1, 1)) {
            return -1;
        }
        told.add(new int[] {x, y, across, down});
        return told.size() - 1;
    }

    int forget() {
        int were = told.size();
        told.clear();
        return were;
    }

    private List<Integer> left(List<int[]> known) {
        List<Integer> left = new ArrayList<>();
        for (int at = 0; at < 100; at++) {
            boolean fits = true;
            for (int[] one : known) {
                fits &= Integer.compare(at % 10, one[0]) == one[2] && Integer.compare(at / 10, one[1]) == one[3];
            }
            if (fits) {
                left.add(at);
            }
        }
        return left;
    }

    int where(int k) {
        return in(k, 0, told.size()) ? left(told.subList(0, k)).size() : -1;
    }

    int surest(int k) {
        if (!in(k, 0, told.size())) {
            return -1;
        }
        List<Integer> left = left(told.subList(0, k));
        return left.isEmpty() ? -2 : left.get(0);
    }

    int holdNext(int k) {
        if (!in(k, 0, told.size())) {
            return -1;
        }
        List<int[]> known = new ArrayList<>(told.subList(0, k));
        if (left(known).isEmpty()) {
            return -2;
        }
        int best = -1;
        int fewest = 1000;
        for (int at = 0; at < 100; at++) {
            int worst = 0;
            for (int answer = 0; answer < 9; answer++) {
                known.add(new int[] {at % 10, at / 10, answer % 3 - 1, answer / 3 - 1});
                worst = Math.max(worst, left(known).size());
                known.remove(known.size() - 1);
            }
            if (worst < fewest) {
                fewest = worst;
                best = at;
            }
        }
        return best;
    }

    boolean hold(int slot) {
        if (!in(slot, 0, 2)) {
            return false;
        }
        slots[slot] = w.copy();
        return true;
    }

    boolean restore(int slot) {
        if (!in(slot, 0, 2) || slots[slot] == null) {
            return false;
        }
        w = slots[slot].copy();
        done.clear();
        return true;
    }

    int count(int what) {
        int bits = 0;
        switch (what) {
            case 0: return w.mermaids.size();
            case 1: return w.people.size();
            case 2: return w.strands.size();
            case 3: return w.month;
            case 4: return w.month % 4;
            case 5:
                for (int p = 0; p < w.people.size(); p++) {
                    bits |= w.people.get(p).off ? 1 << p : 0;
                }
                return bits;
            case 6:
                for (int m = 0; m < w.mermaids.size(); m++) {
                    bits |= w.mermaids.get(m).dead ? 1 << m : 0;
                }
                return bits;
            case 7:
                for (int s = 0; s < w.strands.size(); s++) {
                    bits |= w.strands.get(s).cut ? 1 << s : 0;
                }
                return bits;
            case 8: return tape.length();
            case 9: return done.size();
            case 10: return told.size();
            case 11: return (slots[0] == null ? 0 : 1) + (slots[1] == null ? 0 : 1) + (slots[2] == null ? 0 : 1);
            case 12: return w.prices();
            case 13:
                for (int p = 0; p < w.people.size(); p++) {
                    bits |= w.moved(p) ? 1 << p : 0;
                }
                return bits;
            default: return -1;
        }
    }
}
