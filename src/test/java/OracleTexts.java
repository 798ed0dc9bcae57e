import java.util.Random;

/** Chosen texts of terms. */
final class OracleTexts {
    private static final String[] THINGS = {"stop", "dry", "holds", "pay", "if", "or", "and", "not", "wet", "train",
        "nest", "day", "hour", "wind", "heat", "height", "side", "(", ")", ";", "+", "<", ">", "0", "7", "48", "49",
        "99", "100", "007", "stops", "we", "x", "-", "=", "A", "\u00ff", "\t"};

    private OracleTexts() {
    }

    static String any(Random random) {
        String text = right(random);
        int kind = random.nextInt(8);
        if (kind < 2) {
            return text;
        }
        if (kind == 2) {
            return text.substring(0, random.nextInt(text.length() + 1));
        }
        if (kind == 3) {
            int at = random.nextInt(text.length() + 1);
            String more = " " + THINGS[random.nextInt(THINGS.length)] + " ";
            return cut(text.substring(0, at) + more + text.substring(at));
        }
        if (kind == 4 && !text.isEmpty()) {
            int at = random.nextInt(text.length());
            return text.substring(0, at) + text.substring(at + 1);
        }
        if (kind == 5) {
            return deep(random);
        }
        if (kind == 6) {
            return manyLines(random);
        }
        StringBuilder rubbish = new StringBuilder();
        for (int i = random.nextInt(12); i > 0; i--) {
            rubbish.append(THINGS[random.nextInt(THINGS.length)]).append(random.nextBoolean() ? " " : "");
        }
        return cut(rubbish.toString());
    }

    private static String cut(String text) {
        return text.substring(0, Math.min(400, text.length()));
    }

    static String right(Random random) {
        StringBuilder text = new StringBuilder(random.nextInt(4) == 0 ? "  " : "");
        int lines = random.nextInt(7);
        for (int i = 0; i < lines; i++) {
            String line = line(random);
            if (text.length() + line.length() > 396) {
                break;
            }
            text.append(i == 0 || text.toString().isBlank() ? "" : random.nextBoolean() ? ";" : " ; ").append(line);
        }
        return text.append(random.nextInt(4) == 0 ? " " : "").toString();
    }

    private static String line(Random random) {
        switch (random.nextInt(5)) {
            case 0: return "dry " + random.nextInt(49) + maybe(random);
            case 1: return "holds " + random.nextInt(random.nextBoolean() ? 100 : 8) + maybe(random);
            case 2: return "pay " + random.nextInt(100) + maybe(random);
            default: return "stop if " + either(random, 2);
        }
    }

    private static String maybe(Random random) {
        return random.nextInt(3) == 0 ? "" : " if " + either(random, 2);
    }

    private static String either(Random random, int deep) {
        String text = all(random, deep);
        while (random.nextInt(4) == 0) {
            text += " or " + all(random, deep);
        }
        return text;
    }

    private static String all(Random random, int deep) {
        String text = atom(random, deep);
        while (random.nextInt(3) == 0) {
            text += " and " + atom(random, deep);
        }
        return text;
    }

    private static String atom(Random random, int deep) {
        int kind = random.nextInt(deep > 0 ? 8 : 6);
        if (kind == 7) {
            return "(" + either(random, deep - 1) + ")";
        }
        if (kind == 6) {
            return "not " + atom(random, deep - 1);
        }
        if (kind < 3) {
            return new String[] {"wet", "train", "nest"}[kind];
        }
        return sum(random) + (random.nextBoolean() ? "<" : " > ") + sum(random);
    }

    private static String sum(Random random) {
        String text = part(random);
        while (random.nextInt(4) == 0) {
            text += "+" + part(random);
        }
        return text;
    }

    private static String part(Random random) {
        String[] facts = {"day", "hour", "wind", "heat", "height", "side"};
        return random.nextInt(3) == 0 ? "" + random.nextInt(random.nextBoolean() ? 100 : 12)
                : facts[random.nextInt(facts.length)];
    }

    /** ( and not about six deep. */
    private static String deep(Random random) {
        StringBuilder text = new StringBuilder("stop if ");
        int deep = 4 + random.nextInt(5);
        int open = 0;
        for (int i = 0; i < deep; i++) {
            int kind = random.nextInt(4);
            text.append(kind == 0 ? "not " : kind == 1 ? "wet and (" : kind == 2 ? "1 < 2 or nest and (" : "(");
            open += kind == 0 ? 0 : 1;
            // A not ahead of a tag is no part of what the ( is in.
            if (kind == 0 && random.nextInt(3) == 0) {
                text.append("train or ");
            }
        }
        text.append(random.nextBoolean() ? "wet" : "heat > 3");
        for (int i = random.nextInt(8) == 0 ? 1 : 0; i < open; i++) {
            text.append(random.nextInt(4) == 0 ? " or side < 1)" : ")");
        }
        return cut(text.toString());
    }

    /** About ten lines. */
    private static String manyLines(Random random) {
        StringBuilder text = new StringBuilder();
        int lines = 8 + random.nextInt(5);
        for (int i = 0; i < lines; i++) {
            text.append(i == 0 ? "" : ";").append(random.nextBoolean() ? "dry 1" : "stop if wet or hour<3");
        }
        text.append(random.nextInt(4) == 0 ? ";" : "").append(random.nextInt(4) == 0 ? " stops" : "");
        return cut(text.toString());
    }
}
