import java.util.Random;

/** Texts by chance: most without a FAULT, and ways to spoil them. */
final class Texts {
    private static final String[] NAMES = {"a", "bo", "cid", "dora", "emmas", "ffffff", "ggggggg", "hhhhhhhh", "mia", "nix",
        "pulls", "sea", "thenn", "i", "els", "moons"};
    private static final String[] VARS = {"length", "far", "moon", "month", "weight", "across", "down", "which", "wears"};
    private static final String[] PIECES = {"mermaid", "person", "strand", "pull", "stands", "price", "storm", "pier",
        "seed", "if", "then", "else", "length", "far", "moon", "which", ";", "=", "+", "-", "*", "/", "<", "(", ")", "0",
        "7", "12", "9999", "10000", "abcdefgh", "abcdefghi", "A", "_", "\u0000", "\u00e9", "\u007f", ">", ",", "a", "bo"};

    private final Random chance;

    Texts(Random chance) {
        this.chance = chance;
    }

    private String blank() {
        int n = chance.nextInt(12);
        return n == 0 ? "\n" : n == 1 ? "\t " : n == 2 ? "  " : n == 3 ? "\r" : " ";
    }

    private String gap() {
        return chance.nextInt(3) == 0 ? blank() : "";
    }

    private String name(int from) {
        return NAMES[from % NAMES.length];
    }

    private String step() {
        int step = chance.nextInt(7) - 3;
        return step < 0 ? "-" + gap() + -step : "" + step;
    }

    /** A text whose NAMES and numbers are right; small ones keep the people long on the pier. */
    String right() {
        StringBuilder text = new StringBuilder();
        int mermaids = chance.nextInt(10) == 0 ? 0 : 1 + chance.nextInt(4);
        int people = chance.nextInt(10) == 0 ? 0 : 1 + chance.nextInt(6);
        int strands = mermaids * people == 0 ? 0 : chance.nextInt(9);
        if (chance.nextInt(2) == 0) {
            text.append("pier").append(blank()).append(chance.nextInt(10)).append(gap()).append(";");
        }
        for (int m = 0; m < mermaids; m++) {
            text.append("mermaid").append(blank()).append(name(m)).append(blank()).append(chance.nextInt(10)).append(blank())
                .append(chance.nextInt(10)).append(blank()).append(step()).append(blank()).append(step()).append(gap()).append(";");
        }
        for (int p = 0; p < people; p++) {
            int weight = chance.nextInt(3) == 0 ? 1 + chance.nextInt(99) : 1 + chance.nextInt(12);
            text.append("person").append(blank()).append(name(8 + p)).append(blank()).append(chance.nextInt(10)).append(blank())
                .append(chance.nextInt(chance.nextInt(8) == 0 ? 10 : 5)).append(blank()).append(weight).append(gap()).append(";");
        }
        for (int s = 0; s < strands; s++) {
            text.append("strand").append(blank()).append(name(chance.nextInt(mermaids))).append(blank())
                .append(name(8 + chance.nextInt(people))).append(blank()).append(1 + chance.nextInt(9)).append(gap()).append(";");
        }
        for (int law = 0; law < 4; law++) {
            if (chance.nextInt(2) == 0) {
                text.append(new String[] {"pull", "stands", "price", "storm"}[law]).append(gap()).append("=").append(gap())
                    .append(law(law)).append(gap()).append(";");
            }
        }
        if (chance.nextInt(2) == 0) {
            text.append("seed").append(blank()).append(chance.nextInt(10000)).append(gap()).append(";");
        }
        return text.toString();
    }

    private String law(int law) {
        if (chance.nextInt(3) != 0) {
            return usual(law);
        }
        StringBuilder text = new StringBuilder();
        int ifs = chance.nextInt(3) == 0 ? chance.nextInt(5) : chance.nextInt(2);
        for (int i = 0; i < ifs; i++) {
            text.append("if ").append(expr(2)).append(" < ").append(expr(2)).append(" then ").append(expr(2)).append(" else ");
        }
        return text.append(expr(2)).toString();
    }

    /** LAWS under which things go on for a while. */
    private String usual(int law) {
        String[][] all = {
            {"length + moon", "length * 10 / (far + 1)", "length - far + which", "if far < 3 then 0 else length",
                "length * weight / 9", "month / 5 + length", "length*(moon-1)"},
            {"weight + wears", "weight / 2", "weight - down", "if across < 5 then weight else 0", "weight * 3 - month",
                "weight / (wears - 1)", "5 + across"},
            {"length * 10 + far", "which * 100 + wears", "length * length * length * 2", "far / (moon - 2)"},
            {"3", "down * 2", "if moon < 1 then 20 else 0", "wears + across", "100", "weight / 4", "(month - 5)"},
        };
        return all[law][chance.nextInt(all[law].length)];
    }

    String expr(int depth) {
        StringBuilder text = new StringBuilder(part(depth));
        while (chance.nextInt(3) == 0) {
            text.append(gap()).append(chance.nextBoolean() ? "+" : "-").append(gap()).append(part(depth));
        }
        return text.toString();
    }

    private String part(int depth) {
        StringBuilder text = new StringBuilder(unit(depth));
        while (chance.nextInt(3) == 0) {
            text.append(gap()).append(chance.nextBoolean() ? "*" : "/").append(gap()).append(unit(depth));
        }
        return text.toString();
    }

    private String unit(int depth) {
        if (depth > 0 && chance.nextInt(3) == 0) {
            return "(" + gap() + expr(depth - 1) + gap() + ")";
        }
        if (chance.nextInt(3) == 0) {
            return "" + chance.nextInt(chance.nextInt(5) == 0 ? 10000 : 10);
        }
        return VARS[chance.nextInt(VARS.length)];
    }

    /** A text with something put in, taken out, changed, cut off, or too much of. */
    String spoilt() {
        StringBuilder text = new StringBuilder(right());
        int times = 1 + chance.nextInt(3);
        for (int i = 0; i < times; i++) {
            int at = chance.nextInt(text.length() + 1);
            switch (chance.nextInt(9)) {
                case 0 -> text.insert(at, PIECES[chance.nextInt(PIECES.length)]);
                case 1 -> text.insert(at, " " + PIECES[chance.nextInt(PIECES.length)] + " ");
                case 2 -> text.delete(at, Math.min(text.length(), at + 1 + chance.nextInt(6)));
                case 3 -> text.setLength(at);
                case 4 -> text.append(right());
                case 5 -> number(text);
                case 6 -> text.insert(text.lastIndexOf(";", at) + 1, "person " + name(chance.nextInt(16)) + " 1 1 1;");
                case 7 -> text.append("price = ").append("(".repeat(chance.nextInt(9))).append("1");
                default -> text.append("pull=").append("if 1<2 then 3 else ".repeat(chance.nextInt(7))).append("4;");
            }
        }
        return text.length() > 2000 ? text.substring(0, 2000) : text.toString();
    }

    private void number(StringBuilder text) {
        for (int i = 0; i < 20 && text.length() > 0; i++) {
            int at = chance.nextInt(text.length());
            if (Character.isDigit(text.charAt(at))) {
                text.replace(at, at + 1, "" + chance.nextInt(200));
                return;
            }
        }
    }

    /** TOKENS of any sort, up to and beyond the room for them. */
    String many() {
        StringBuilder text = new StringBuilder("pull=1");
        int units = 190 + chance.nextInt(12);
        for (int i = 0; i < units; i++) {
            text.append("+1");
        }
        for (int i = chance.nextInt(20); i > 0; i--) {
            text.append(chance.nextInt(4) == 0 ? ";pier 1" : "+far");
        }
        return text.append(chance.nextInt(3) == 0 ? "" : ";").append(chance.nextInt(4) == 0 ? "?" : "").toString();
    }
}
