import java.util.Random;

/** Every call, held against the Model over many texts and runs by chance (the same ones each time). */
final class ModelTest {
    private final Check check = new Check();
    private final Random chance;
    private final Texts texts;
    private SeaHair hair;
    private Model model;

    private ModelTest(long seed) {
        chance = new Random(seed);
        texts = new Texts(chance);
    }

    public static void main(String[] args) {
        int more = args.length > 0 ? Integer.parseInt(args[0]) : 1;
        ModelTest test = new ModelTest(args.length > 1 ? Long.parseLong(args[1]) : 20261118L);
        for (int i = 0; i < 6000 * more; i++) {
            test.readOnce(i);
        }
        for (int i = 0; i < 80 * more; i++) {
            test.run(i);
        }
        test.check.end();
    }

    private void readOnce(int i) {
        String text = i % 10 == 0 ? texts.many() : i % 4 == 0 ? texts.right() : texts.spoilt();
        text = text.length() > 2000 ? text.substring(0, 2000) : text;
        check.about("text " + i + " [" + text + "]");
        hair = new SeaHair();
        model = new Model();
        put(text);
        check.due("read()", hair.read(), model.read());
        check.due("place()", hair.place(), model.place());
        check.due("count(1)", hair.count(1), model.count(1));
        check.due("count(2)", hair.count(2), model.count(2));
        check.due("count(12)", hair.count(12), model.count(12));
        check.due("count(13)", hair.count(13), model.count(13));
    }

    private void put(String text) {
        int size = (text.length() + 19) / 20 * 20;
        for (int at = 0; at < size; at += 20) {
            int[] f = new int[5];
            for (int i = 0; i < 5; i++) {
                f[i] = Check.four(text, at + 4 * i);
            }
            check.due("feed", hair.feed(f[0], f[1], f[2], f[3], f[4]), model.feed(f[0], f[1], f[2], f[3], f[4]));
        }
        int over = size - text.length();
        check.due("back", hair.back(over), model.back(over));
    }

    private void run(int number) {
        hair = new SeaHair();
        model = new Model();
        StringBuilder told = new StringBuilder("run " + number);
        int askedBefore = check.asked();
        // each call is one answer asked; the last ones may be a text's, of 102 calls, and what is asked behind it
        for (int call = 0; check.asked() - askedBefore < 512 - 105; call++) {
            if (call == 1 || chance.nextInt(150) == 0) {
                String text = call > 1 && chance.nextInt(3) == 0 ? texts.spoilt() : texts.right();
                told.append("\n  [").append(text).append(']');
                check.about(told.toString());
                put(text);
                check.due("read()", hair.read(), model.read());
            }
            int wrongBefore = check.wrong();
            int which = chance.nextInt(100);
            check.about(told + "\n  call " + call);
            if (which < 20) {
                doOne(which);
            } else {
                ask(which % 32, told);
            }
            if (check.wrong() != wrongBefore) {
                return;
            }
        }
    }

    private int small(int most) {
        int n = chance.nextInt(24);
        return n == 0 ? -1 : n == 1 ? most + 1 : n == 2 ? odd() : chance.nextInt(most + 1);
    }

    private int odd() {
        int[] odd = {Integer.MIN_VALUE, Integer.MAX_VALUE, -2, 32, 64, 1 << 30, 100, -100, 1 << 31 | 1};
        return odd[chance.nextInt(odd.length)];
    }

    private void doOne(int which) {
        int a = small(7);
        int b = small(5);
        switch (which) {
            case 0, 1, 2, 3 -> check.due("hand(" + a + ", " + b + ")", hair.hand(a, b), model.hand(a, b));
            case 4 -> check.due("cut(" + a + ")", hair.cut(a), model.cut(a));
            case 5 -> {
                int m = small(3);
                if (chance.nextInt(3) == 0) {
                    check.due("die(" + m + ")", hair.die(m), model.die(m));
                }
            }
            case 6, 7, 8 -> {
                int n = chance.nextInt(12) == 0 ? small(60) : small(3);
                check.due("months(" + n + ")", hair.months(n), model.months(n));
            }
            case 9, 10, 11 -> check.due("undo()", hair.undo(), model.undo());
            case 12 -> {
                int slot = small(2);
                check.due("hold(" + slot + ")", hair.hold(slot), model.hold(slot));
            }
            case 13 -> {
                int slot = small(2);
                check.due("restore(" + slot + ")", hair.restore(slot), model.restore(slot));
            }
            case 14, 15, 16, 17 -> tellOne();
            case 18 -> {
                if (chance.nextInt(4) == 0) {
                    check.due("forget()", hair.forget(), model.forget());
                }
            }
            default -> {
                int n = small(40);
                check.due("back(" + n + ")", hair.back(n), model.back(n));
                int word = chance.nextInt();
                check.due("feed", hair.feed(word, 0, -1, word, 7), model.feed(word, 0, -1, word, 7));
                check.due("back(20)", hair.back(20), model.back(20));
            }
        }
    }

    private void tellOne() {
        int x = small(9);
        int y = small(9);
        int across = small(2) - 1;
        int down = small(2) - 1;
        if (chance.nextInt(3) != 0) {
            across = Integer.compare(6, x);
            down = Integer.compare(3, y);
        }
        check.due("tell(" + x + ", " + y + ", " + across + ", " + down + ")", hair.tell(x, y, across, down),
            model.tell(x, y, across, down));
    }

    private void ask(int which, StringBuilder told) {
        int m = small(3);
        int o = small(3);
        int p = small(5);
        int s = small(7);
        int n = chance.nextInt(3) == 0 ? small(60) : small(6);
        int d = small(9);
        int k = chance.nextInt(3) == 0 ? small(20) : small(4);
        int two = small(1);
        String args = " of m " + m + " o " + o + " p " + p + " s " + s + " n " + n + " d " + d + " k " + k + " what " + two;
        switch (which) {
            case 0, 1 -> {
                int what = small(4);
                check.due("mermaid(" + m + ", " + what + ")", hair.mermaid(m, what), model.mermaid(m, what));
            }
            case 2, 3, 4 -> {
                int what = small(8);
                check.due("person(" + p + ", " + what + ")", hair.person(p, what), model.person(p, what));
            }
            case 5, 6 -> {
                int what = small(6);
                check.due("strand(" + s + ", " + what + ")", hair.strand(s, what), model.strand(s, what));
            }
            case 7 -> {
                int what = small(2);
                check.due("then" + args + what, hair.then(p, n, what), model.then(p, n, what));
            }
            case 8 -> check.due("swims" + args, hair.swims(m, n, two), model.swims(m, n, two));
            case 9 -> check.due("first" + args, hair.first(two), model.first(two));
            case 10 -> check.due("near" + args, hair.near(m, p, d), model.near(m, p, d));
            case 11, 12 -> askPlait(p, two);
            case 13 -> check.due("turns" + args, hair.turns(p, n), model.turns(p, n));
            case 14 -> check.due("strongest" + args, hair.strongest(p, two), model.strongest(p, two));
            case 15 -> check.due("again" + args, hair.again(m), model.again(m));
            case 16 -> check.due("passing" + args, hair.passing(m, o, d), model.passing(m, o, d));
            case 17 -> check.due("even" + args, hair.even(p), model.even(p));
            case 18 -> check.due("market" + args, hair.market(n), model.market(n));
            case 19 -> check.due("nothing" + args, hair.nothing(p, two), model.nothing(p, two));
            case 20 -> check.due("safe" + args, hair.safe(p, two), model.safe(p, two));
            case 21 -> check.due("cutBest", hair.cutBest(), model.cutBest());
            case 22 -> check.due("worth" + args, hair.worth(p), model.worth(p));
            case 23 -> check.due("give" + args, hair.give(s), model.give(s));
            case 24 -> {
                int seeds = small(chance.nextInt(5) == 0 ? 20 : 4);
                check.due("year" + args + seeds, hair.year(p, n, seeds), model.year(p, n, seeds));
            }
            case 25 -> check.due("where" + args, hair.where(k), model.where(k));
            case 26 -> check.due("surest" + args, hair.surest(k), model.surest(k));
            case 27 -> check.due("holdNext" + args, hair.holdNext(k), model.holdNext(k));
            case 28 -> check.due("place()", hair.place(), model.place());
            default -> {
                int what = small(13);
                check.due("count(" + what + ")", hair.count(what), model.count(what));
            }
        }
    }

    private void askPlait(int p, int two) {
        int across = chance.nextInt(25) - 12;
        int down = chance.nextInt(25) - 12;
        if (chance.nextBoolean()) {
            // What one of the STRANDS pulls, or two of them, so that there is something to be found.
            int s = chance.nextInt(8);
            across = model.strand(s, 4) * (chance.nextInt(3) - 1);
            down = chance.nextBoolean() ? across : model.strand(s, 4) * (chance.nextInt(3) - 1);
        } else if (chance.nextInt(10) == 0) {
            across = odd();
        } else if (chance.nextInt(10) == 0) {
            down = chance.nextBoolean() ? 1000 : -1000;
        }
        check.due("plait(" + p + ", " + across + ", " + down + ", " + two + ")", hair.plait(p, across, down, two),
            model.plait(p, across, down, two));
    }
}
