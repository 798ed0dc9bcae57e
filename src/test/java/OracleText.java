import java.util.ArrayList;
import java.util.HashMap;
import java.util.List;
import java.util.Map;
import java.util.Optional;
import java.util.function.Predicate;
import java.util.function.ToIntFunction;
import java.util.regex.Matcher;
import java.util.regex.Pattern;

/**
 * The texts of terms, read another way: a text is right or not, and the first wrong thing is the first one with which
 * no end makes the text right. So where a thing cannot stand is not told by the reader, but tried out.
 */
final class OracleText {
    private static final Pattern THING = Pattern.compile("[a-z]+|[0-9]+|[^a-z0-9 ]", Pattern.DOTALL);

    /** Ends that make right every begin of a text that can be made right, ahead of the ) that are still missing. */
    private static final String[] ENDS = {"", "wet", "1 < 1", "< 1", "1", "if wet", "1 if wet", "stop if wet"};

    /** What is so of a bay at a moment. */
    static final class Spot {
        final Map<String, Integer> facts = new HashMap<>();
        final Map<String, Boolean> tags = new HashMap<>();
    }

    static final class Line {
        final String kind;
        final int number;
        final Predicate<Spot> condition;

        Line(String kind, int number, Predicate<Spot> condition) {
            this.kind = kind;
            this.number = number;
            this.condition = condition;
        }

        boolean holds(Spot spot) {
            return condition.test(spot);
        }
    }

    /** The text is not right. */
    private static final class Wrong extends Exception {
        private static final long serialVersionUID = 1L;
    }

    private final List<String> things;
    private int at = 0;

    private OracleText(List<String> things) {
        this.things = things;
    }

    private static List<String> things(String text, List<Integer> begins) {
        List<String> things = new ArrayList<>();
        Matcher matcher = THING.matcher(text);
        while (matcher.find()) {
            things.add(matcher.group());
            begins.add(matcher.start());
        }
        return things;
    }

    /** The lines of a text that is right. */
    static Optional<List<Line>> read(String text) {
        return read(things(text, new ArrayList<>()));
    }

    private static Optional<List<Line>> read(List<String> things) {
        try {
            return Optional.of(new OracleText(things).lines());
        } catch (Wrong wrong) {
            return Optional.empty();
        }
    }

    static int firstWrong(String text) {
        List<Integer> begins = new ArrayList<>();
        List<String> things = things(text, begins);
        if (read(things).isPresent()) {
            return -1;
        }
        for (int last = 0; last < things.size(); last++) {
            if (!canGoOn(things.subList(0, last + 1))) {
                return begins.get(last);
            }
        }
        return text.length();
    }

    private static boolean canGoOn(List<String> begin) {
        int last = begin.size() - 1;
        // Behind a tenth line a ; may stand, but no line: the word of that one is the wrong thing.
        if (begin.get(last).equals(";")) {
            Optional<List<Line>> ahead = read(begin.subList(0, last));
            return ahead.isPresent() && !ahead.get().isEmpty();
        }
        for (String end : ENDS) {
            List<String> whole = new ArrayList<>(begin);
            whole.addAll(things(end, new ArrayList<>()));
            for (int closed = 0; closed <= 6; closed++) {
                if (read(whole).isPresent()) {
                    return true;
                }
                whole.add(")");
            }
        }
        return false;
    }

    private String next() {
        return at < things.size() ? things.get(at) : "";
    }

    private boolean take(String thing) {
        boolean is = next().equals(thing);
        at += is ? 1 : 0;
        return is;
    }

    private static void must(boolean is) throws Wrong {
        if (!is) {
            throw new Wrong();
        }
    }

    private List<Line> lines() throws Wrong {
        List<Line> lines = new ArrayList<>();
        if (things.isEmpty()) {
            return lines;
        }
        do {
            lines.add(line());
        } while (take(";"));
        must(at == things.size() && lines.size() <= 10);
        return lines;
    }

    private Line line() throws Wrong {
        if (take("stop")) {
            must(take("if"));
            return new Line("stop", 0, either(0));
        }
        for (String kind : new String[] {"dry", "holds", "pay"}) {
            if (take(kind)) {
                int number = number();
                must(!kind.equals("dry") || number <= 48);
                return new Line(kind, number, take("if") ? either(0) : spot -> true);
            }
        }
        throw new Wrong();
    }

    private int number() throws Wrong {
        must(next().matches("[0-9]{1,2}"));
        at++;
        return Integer.parseInt(things.get(at - 1));
    }

    private Predicate<Spot> either(int deep) throws Wrong {
        Predicate<Spot> condition = all(deep);
        while (take("or")) {
            condition = condition.or(all(deep));
        }
        return condition;
    }

    private Predicate<Spot> all(int deep) throws Wrong {
        Predicate<Spot> condition = atom(deep);
        while (take("and")) {
            condition = condition.and(atom(deep));
        }
        return condition;
    }

    private Predicate<Spot> atom(int deep) throws Wrong {
        if (take("not")) {
            must(deep < 6);
            return atom(deep + 1).negate();
        }
        if (take("(")) {
            must(deep < 6);
            Predicate<Spot> condition = either(deep + 1);
            must(take(")"));
            return condition;
        }
        for (String tag : new String[] {"wet", "train", "nest"}) {
            if (take(tag)) {
                return spot -> spot.tags.get(tag);
            }
        }
        ToIntFunction<Spot> left = sum();
        boolean less = take("<");
        must(less || take(">"));
        ToIntFunction<Spot> right = sum();
        return spot -> less ? left.applyAsInt(spot) < right.applyAsInt(spot)
                : left.applyAsInt(spot) > right.applyAsInt(spot);
    }

    private ToIntFunction<Spot> sum() throws Wrong {
        ToIntFunction<Spot> sum = part();
        while (take("+")) {
            ToIntFunction<Spot> ahead = sum;
            ToIntFunction<Spot> more = part();
            sum = spot -> ahead.applyAsInt(spot) + more.applyAsInt(spot);
        }
        return sum;
    }

    private ToIntFunction<Spot> part() throws Wrong {
        for (String fact : new String[] {"day", "hour", "wind", "heat", "height", "side"}) {
            if (take(fact)) {
                return spot -> spot.facts.get(fact);
            }
        }
        int number = number();
        return spot -> number;
    }
}
