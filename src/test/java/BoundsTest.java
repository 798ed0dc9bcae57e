import java.lang.reflect.InvocationTargetException;
import java.lang.reflect.Method;
import java.util.ArrayList;
import java.util.Arrays;
import java.util.List;
import java.util.NoSuchElementException;

/**
 * Each number of each call that can be refused: the last one that is good and the first one that is not, on both
 * sides, and the ends of int; which of two exceptions goes ahead; and that a refused call changes nothing.
 */
final class BoundsTest {
    /**
     * Of each call its numbers: what is thrown (I index, A argument, E element), the least and the greatest that are
     * good with the others as they are here, and the one that the others are tried with. A + is true and false. All
     * on the object that Whole tells: today is day 7, three bays, two terms, gangs and batches, three jobs.
     */
    private static final String[] CALLS = {
        "days A:0:192:1",
        "bay A:0:1:0 A:0:9:4 A:1:20:3 A:0:500:50",
        "weather I:0:199:0 I:0:199:199 I:0:11:0 I:0:11:11 A:-10:9:0 A:0:30:10",
        "trains A:0:4095:1",
        "span + I:0:199:0 I:0:199:199",
        "nest I:0:2:1 I:0:199:0 I:0:199:199",
        "why I:0:1:0 I:0:2:0 I:0:199:5 I:0:11:5",
        "at I:0:1:0 I:0:2:0 I:0:199:5 I:0:11:5 E:0:7:0",
        "hours I:0:1:0 I:0:2:0 I:0:199:0 I:0:199:199 E:0:3:0",
        "gang A:1:5:3",
        "batch A:0:99:9 A:0:50:9 A:0:255:9",
        "ends I:0:1:0 I:0:2:0 I:0:1:0 I:0:2399:0",
        "may I:0:2:0 I:0:2399:0",
        "job I:0:1:0 I:0:2:0 I:0:1:0 I:0:1:0 I:0:2399:90",
        "look I:0:2:0 E:0:7:0",
        "peel I:0:2:0",
        "fail I:0:1:0",
        "last I:0:2:0 I:0:199:5 I:0:199:5",
        "recall I:0:1:0 I:0:199:5 +",
        "left I:0:1:0",
        "caught I:0:199:0 I:0:199:199 I:0:199:5",
        "bare I:0:2:0 I:0:199:0 I:0:199:199 I:0:199:5",
        "rust I:0:1:0 A:0:7:0 A:0:20:7",
        "reading I:0:2:0 I:0:199:5 A:0:500:50",
        "steel I:0:2:0 I:0:199:5 I:0:199:5 +",
        "below I:0:2:0 A:1:500:50 I:0:199:5",
        "order I:0:1:0 I:0:1:0 A:1:7:3 I:0:2399:0 E:0:2:0",
        "put I:0:1:0 A:0:7:3 I:0:2399:0 I:-1:2:0",
        "cost I:0:2:0 A:0:99:9 A:0:99:9",
        "wear I:0:2:0 A:0:999:9 A:0:999:9 A:0:999:9",
        "spent A:0:500:50 I:-1:2:0",
        "promise A:1:20:5 A:0:4:1 A:1:20:2",
        "edge A:1:20:5 A:0:4:1 A:1:20:2 A:0:999:9",
        "even A:1:4:2",
        "peels I:0:1:0 I:0:199:5 +",
        "worst I:0:199:5",
        "risk I:0:2:0",
        "match A:0:255:9 I:0:199:5",
        "bolt I:0:2:0 I:0:199:5",
        "finds I:0:2:0 I:0:199:0 I:0:199:199"
    };

    /** The calls with a first and a second day or hour: the places of these among the numbers. */
    private static final String[] SPANS = {
        "weather 0 1 199", "weather 2 3 11", "span 1 2 199", "nest 1 2 199", "hours 2 3 199", "caught 0 1 199",
        "bare 1 2 199", "finds 1 2 199"
    };

    private static final List<String> DUE = Whole.of(Whole.told());

    private final Method method;
    private final String[] numbers;

    private BoundsTest(String call) {
        String[] parts = call.split(" ");
        Method found = null;
        for (Method candidate : BridgePaint.class.getDeclaredMethods()) {
            if (candidate.getName().equals(parts[0])) {
                found = candidate;
            }
        }
        method = found;
        numbers = Arrays.copyOfRange(parts, 1, parts.length);
    }

    public static void main(String[] args) {
        whole();
        for (String call : CALLS) {
            BoundsTest test = new BoundsTest(call);
            for (boolean told : new boolean[] {false, true}) {
                test.each(told);
                test.pairs(told);
            }
        }
        for (String span : SPANS) {
            spans(span.split(" "));
        }
        rusts();
        Check.finish("BoundsTest");
    }

    /** The object that all is tried on is as it is meant to be. */
    private static void whole() {
        BridgePaint paint = Whole.told();
        int[] due = {Whole.BAYS, Whole.TERMS, Whole.GANGS, Whole.BATCHES, Whole.JOBS, 2, 2, Whole.TODAY, 1, 2};
        for (int what = 0; what < due.length; what++) {
            Check.due("count(" + what + ") of the whole", paint.count(what), due[what]);
        }
        Check.due("told alike, they are alike", Whole.difference(Whole.of(Whole.told()), DUE) == null, true);
        Check.due("fault of the whole", paint.fault(), 8);
        Check.due("the tape of the whole", paint.end(Whole.TAPE.length()), true);
    }

    private int part(int number, int at) {
        return Integer.parseInt(numbers[number].split(":")[at]);
    }

    private boolean isFlag(int number) {
        return numbers[number].equals("+");
    }

    private Class<?> kind(int number) {
        switch (numbers[number].charAt(0)) {
            case 'I': return IndexOutOfBoundsException.class;
            case 'A': return IllegalArgumentException.class;
            default: return NoSuchElementException.class;
        }
    }

    private Object[] usual(boolean told) {
        Object[] arguments = new Object[numbers.length];
        for (int i = 0; i < arguments.length; i++) {
            arguments[i] = isFlag(i) ? (Object) told : (Object) part(i, 3);
        }
        return arguments;
    }

    private Throwable thrown(BridgePaint paint, Object[] arguments) {
        try {
            method.invoke(paint, arguments);
            return null;
        } catch (InvocationTargetException thrown) {
            return thrown.getCause();
        } catch (IllegalAccessException thrown) {
            return thrown;
        }
    }

    private String text(Object[] arguments) {
        return method.getName() + Arrays.toString(arguments);
    }

    private void good(Object[] arguments) {
        Throwable thrown = thrown(Whole.told(), arguments);
        Check.due(text(arguments) + " is good (" + thrown + ")", thrown == null, true);
    }

    private void refused(Object[] arguments, Class<?> kind) {
        BridgePaint paint = Whole.told();
        Throwable thrown = thrown(paint, arguments);
        boolean isDue = thrown != null && thrown.getClass() == kind;
        Check.due(text(arguments) + " throws " + kind.getSimpleName() + ", not " + thrown, isDue, true);
        String changed = Whole.difference(Whole.of(paint), DUE);
        Check.due(text(arguments) + " changes " + changed, changed == null, true);
    }

    private int[] wrong(int number) {
        List<Integer> found = new ArrayList<>();
        found.add(part(number, 1) - 1);
        found.add(part(number, 2) + 1);
        found.add(Integer.MIN_VALUE);
        found.add(Integer.MAX_VALUE);
        int[] all = new int[found.size()];
        for (int i = 0; i < all.length; i++) {
            all[i] = found.get(i);
        }
        return all;
    }

    private void each(boolean told) {
        for (int number = 0; number < numbers.length; number++) {
            if (!isFlag(number)) {
                Object[] arguments = usual(told);
                good(arguments);
                arguments[number] = part(number, 1);
                good(arguments);
                arguments[number] = part(number, 2);
                good(arguments);
                for (int wrong : wrong(number)) {
                    arguments[number] = wrong;
                    refused(arguments, kind(number));
                }
            }
        }
    }

    /** Of two wrong numbers: an index goes ahead of an argument, and both go ahead of an element. */
    private void pairs(boolean told) {
        for (int one = 0; one < numbers.length; one++) {
            for (int other = one + 1; other < numbers.length; other++) {
                if (!isFlag(one) && !isFlag(other) && kind(one) != kind(other)) {
                    Object[] arguments = usual(told);
                    arguments[one] = part(one, 2) + 1;
                    arguments[other] = part(other, 1) - 1;
                    refused(arguments, "IAE".indexOf(numbers[one].charAt(0)) < "IAE".indexOf(numbers[other].charAt(0))
                            ? kind(one) : kind(other));
                }
            }
        }
    }

    /** A second day, or hour, may be the first one, and not be ahead of it. */
    private static void spans(String[] parts) {
        for (String call : CALLS) {
            if (call.startsWith(parts[0] + " ")) {
                BoundsTest test = new BoundsTest(call);
                int first = Integer.parseInt(parts[1]);
                int second = Integer.parseInt(parts[2]);
                int most = Integer.parseInt(parts[3]);
                for (int from : new int[] {0, 1, most - 1, most}) {
                    test.span(first, second, from, most);
                }
            }
        }
    }

    private void span(int first, int second, int from, int most) {
        for (boolean told : new boolean[] {false, true}) {
            Object[] arguments = usual(told);
            arguments[first] = from;
            arguments[second] = from;
            good(arguments);
            if (from > 0) {
                arguments[second] = from - 1;
                refused(arguments, IllegalArgumentException.class);
                arguments[second] = 0;
                refused(arguments, IllegalArgumentException.class);
                arguments[second] = -1;
                refused(arguments, IndexOutOfBoundsException.class);
            }
            arguments[first] = most + 1;
            arguments[second] = from;
            refused(arguments, IndexOutOfBoundsException.class);
        }
    }

    /** "not 0 to least to greatest to 20" */
    private static void rusts() {
        BoundsTest test = new BoundsTest("rust I:0:1:0 A:0:20:20 A:20:20:20");
        for (boolean told : new boolean[] {false, true}) {
            test.each(told);
            test.pairs(told);
        }
        test.good(new Object[] {0, 0, 0});
        test.good(new Object[] {1, 20, 20});
        test.refused(new Object[] {1, 1, 0}, IllegalArgumentException.class);
        test.refused(new Object[] {1, 20, 19}, IllegalArgumentException.class);
        test.refused(new Object[] {0, -1, -1}, IllegalArgumentException.class);
        test.refused(new Object[] {0, 21, 21}, IllegalArgumentException.class);
        test.refused(new Object[] {0, Integer.MIN_VALUE, Integer.MAX_VALUE}, IllegalArgumentException.class);
    }
}
