import java.lang.reflect.InvocationTargetException;
import java.lang.reflect.Method;
import java.util.ArrayList;
import java.util.HashMap;
import java.util.List;
import java.util.Map;
import java.util.Random;

/**
 * Long runs of chosen calls on the program and on the oracle side by side; every answer, and every exception by its
 * very class, must be the same. The numbers of a seed are always the same ones. Arguments: the first seed, and how
 * many runs (for a longer search by hand).
 */
final class OracleTest {
    /** Of each method what its arguments are. */
    private static final String[] CALLS = {
        "feed any any any any any", "end tapeLength", "days step", "bay side height need steel",
        "weather day0 day1 hour0 hour1 wind heat", "trains hours", "span bool day0 day1", "nest bay day0 day1",
        "terms", "fault", "why terms bay day hour", "at terms bay day hour what7",
        "hours terms bay day0 day1 what3", "gang skill", "batch tins lead colour", "ends terms bay gang moment",
        "may bay moment", "job terms bay gang batch moment", "look job what7", "peel job", "fail batch",
        "last bay day known", "recall batch known bool", "left batch", "caught day0 day1 known",
        "bare bay day0 day1 known", "rust side least most", "reading bay day steel", "steel bay day known bool",
        "below bay limit known", "order terms gang set moment what2", "put terms set moment bayOrNone",
        "cost bay coin coin", "wear bay wear wear wear", "spent coins bayOrNone", "promise years h hard",
        "edge years h hard always", "even parts", "peels gang known bool", "worst known", "risk job",
        "match colour known", "bolt bay day", "finds bay day0 day1", "thick", "image", "back", "count what9"
    };

    /** Calls that make the state rich come more often, and dear ones less often. */
    private static final String OFTEN = "job job job job job job job job peel peel bay gang batch weather weather reading"
            + " days may ends last bare bare steel steel below why at hours risk match recall worst nest span span"
            + " order put cost wear wear spent rust";

    /** As many calls as an object is used for, less a long text and what is told with it. */
    private static final int CALLS_A_RUN = 512 - 30;

    private final Random random;
    private final BridgePaint paint = new BridgePaint();
    private final Oracle oracle = new Oracle();
    private final List<String> log = new ArrayList<>();
    private final Map<String, Method> faces = new HashMap<>();
    private final Map<String, Method> oracles = new HashMap<>();
    private final List<String> picks = new ArrayList<>();
    private final int lastDay;
    private final int wrongPart;
    private int firstDay;
    private int calls;

    private OracleTest(long seed) {
        random = new Random(seed);
        lastDay = new int[] {6, 20, 60, 199}[random.nextInt(4)];
        wrongPart = new int[] {0, 40, 12, 1}[random.nextInt(4)];
        for (Method method : BridgePaint.class.getDeclaredMethods()) {
            faces.put(method.getName(), method);
        }
        for (Method method : Oracle.class.getDeclaredMethods()) {
            if (java.lang.reflect.Modifier.isPublic(method.getModifiers())) {
                oracles.put(method.getName(), method);
                method.setAccessible(true);
            }
        }
        for (String call : CALLS) {
            picks.add(call.split(" ")[0]);
        }
        picks.addAll(List.of(OFTEN.split(" ")));
    }

    public static void main(String[] args) {
        long from = args.length > 0 ? Long.parseLong(args[0]) : 1;
        long runs = args.length > 1 ? Long.parseLong(args[1]) : 250;
        for (long seed = from; seed < from + runs; seed++) {
            if (!new OracleTest(seed).run(seed)) {
                break;
            }
        }
        texts(from, runs);
        Check.finish("OracleTest");
    }

    private boolean run(long seed) {
        begin();
        while (calls < CALLS_A_RUN) {
            int kind = random.nextInt(60);
            boolean same = kind == 0 ? tell(OracleTexts.any(random)) && same("terms")
                    : same(picks.get(random.nextInt(picks.size())));
            if (!same) {
                Check.complain("in the run of seed " + seed + ":");
                for (String call : log) {
                    System.out.println("  " + call);
                }
                return false;
            }
        }
        return true;
    }

    private void begin() {
        int bays = random.nextInt(8);
        int gangs = random.nextInt(5);
        int batches = random.nextInt(7);
        for (int i = 0; i <= bays; i++) {
            same("bay");
        }
        for (int i = 0; i < gangs; i++) {
            same("gang");
        }
        for (int i = 0; i < batches; i++) {
            same("batch");
        }
        for (int i = random.nextInt(3); i >= 0; i--) {
            tell(OracleTexts.right(random));
            same("terms");
        }
        same("trains");
    }

    private boolean tell(String text) {
        log.add("text \"" + text + "\"");
        calls += 2 + (text.length() + 19) / 20;
        Check.tape(paint, text);
        oracle.end(0);
        StringBuilder padded = new StringBuilder(text);
        while (padded.length() % 20 != 0) {
            padded.append((char) 0);
        }
        for (int at = 0; at < padded.length(); at += 20) {
            int[] numbers = new int[5];
            for (int i = 0; i < 20; i++) {
                numbers[i / 4] = numbers[i / 4] << 8 | padded.charAt(at + i);
            }
            oracle.feed(numbers[0], numbers[1], numbers[2], numbers[3], numbers[4]);
        }
        oracle.end(text.length());
        return true;
    }

    private boolean same(String name) {
        String[] kinds = null;
        for (String call : CALLS) {
            if (call.split(" ")[0].equals(name)) {
                kinds = call.split(" ");
            }
        }
        Object[] arguments = new Object[kinds.length - 1];
        firstDay = random.nextInt(lastDay + 1);
        for (int i = 1; i < kinds.length; i++) {
            arguments[i - 1] = kinds[i].equals("bool") ? (Object) random.nextBoolean() : (Object) argument(kinds[i]);
        }
        calls++;
        String answer = answer(faces.get(name), paint, arguments);
        String due = answer(oracles.get(name), oracle, arguments);
        log.add(name + java.util.Arrays.toString(arguments) + " = " + answer + (answer.equals(due) ? "" : ", due " + due));
        Check.due(log.get(log.size() - 1), answer.equals(due), true);
        return answer.equals(due);
    }

    private static String answer(Method method, Object of, Object[] arguments) {
        try {
            return String.valueOf(method.invoke(of, arguments));
        } catch (InvocationTargetException thrown) {
            return thrown.getCause().getClass().getName();
        } catch (IllegalAccessException thrown) {
            return thrown.toString();
        }
    }

    private int argument(String kind) {
        if (wrongPart > 0 && random.nextInt(wrongPart * 3) == 0) {
            int[] wrong = {-1, -2, Integer.MIN_VALUE, Integer.MAX_VALUE, 200, 2400, 12, 4096, 501, 1000, 256, 21, 8,
                40, 30, 31, 5, 4, 6, 51, 100, 10, -10, -11, 3, 7, 199, 2399, 255, 500, 0, 1, 2};
            return wrong[random.nextInt(wrong.length)];
        }
        switch (kind) {
            case "any": return random.nextInt();
            case "tapeLength": return random.nextInt(60);
            case "step": return random.nextInt(3);
            case "side": return random.nextInt(2);
            case "height": return random.nextInt(10);
            case "need": return 1 + random.nextInt(random.nextBoolean() ? 20 : 6);
            case "steel": return random.nextInt(random.nextBoolean() ? 501 : 60);
            case "day": return random.nextInt(lastDay + 1);
            case "day0": return firstDay;
            case "day1": return ordered(firstDay, lastDay);
            case "hour": return random.nextInt(12);
            case "hour0": return firstDay = random.nextInt(12);
            case "hour1": return ordered(firstDay, 11);
            case "known": return random.nextInt(Math.min(200, Math.max(2, oracle.count(7) + 2)));
            case "wind": return random.nextInt(20) - 10;
            case "heat": return random.nextInt(31);
            case "hours": return random.nextInt(4096) & random.nextInt(4096);
            case "skill": return 1 + random.nextInt(5);
            case "tins": return random.nextInt(100);
            case "lead": return random.nextInt(51);
            case "colour": return random.nextInt(256);
            case "moment": return random.nextInt((lastDay + 1) * 12);
            case "least": return firstDay = random.nextInt(5);
            case "most": return firstDay + random.nextInt(4);
            case "limit": return 1 + random.nextInt(random.nextBoolean() ? 500 : 60);
            case "coin": return random.nextInt(random.nextBoolean() ? 100 : 4);
            case "coins": return random.nextInt(random.nextBoolean() ? 501 : 40);
            case "wear": return random.nextInt(random.nextBoolean() ? 1000 : 4);
            case "years": return 1 + random.nextInt(20);
            case "h": return random.nextInt(5);
            case "hard": return 1 + random.nextInt(random.nextBoolean() ? 20 : 5);
            case "always": return random.nextInt(1000);
            case "parts": return 1 + random.nextInt(4);
            case "what9": return random.nextInt(10);
            case "what7": return random.nextInt(8);
            case "what3": return random.nextInt(4);
            case "what2": return random.nextInt(3);
            case "set": return few(random.nextInt(1 << Math.max(1, oracle.count(0))));
            case "bayOrNone": return random.nextInt(oracle.count(0) + 1) - 1;
            default: return numbered(kind);
        }
    }

    /** Mostly not ahead of the first. */
    private int ordered(int first, int last) {
        return random.nextInt(20) == 0 ? random.nextInt(last + 1) : first + random.nextInt(Math.max(1, last - first + 1));
    }

    private int few(int set) {
        int left = random.nextInt(3) == 0 ? set : set & random.nextInt(256);
        // All orders of six bays are dear for the oracle.
        while (Integer.bitCount(left) > 4 && random.nextInt(6) > 0) {
            left &= left - 1;
        }
        return left;
    }

    /** A number that there is, mostly. */
    private int numbered(String kind) {
        int what = List.of("bay", "terms", "gang", "batch", "job").indexOf(kind);
        return random.nextInt(Math.max(1, oracle.count(what)));
    }

    /** Texts alone: right ones, ones with a wrong thing, and rubbish. */
    private static void texts(long from, long runs) {
        for (long seed = from; seed < from + runs * 8; seed++) {
            String text = OracleTexts.any(new Random(seed));
            BridgePaint paint = new BridgePaint();
            Check.tape(paint, text);
            boolean refused = false;
            try {
                paint.terms();
            } catch (IllegalArgumentException thrown) {
                refused = true;
            }
            int due = OracleText.firstWrong(text);
            Check.due("fault of \"" + text + "\"", paint.fault(), due);
            Check.due("refused \"" + text + "\"", refused, due >= 0);
        }
    }
}
