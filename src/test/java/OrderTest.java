/** Promises 32 and 33: orders of bays, and gangs put to bays. */
final class OrderTest {
    private OrderTest() {
    }

    public static void main(String[] args) {
        promise32();
        promise32Jobs();
        promise32Six();
        promise32None();
        promise32Wrong();
        promise33();
        promise33Jobs();
        promise33None();
        promise33Wrong();
        Check.finish("OrderTest");
    }

    private static BridgePaint ready(int... needs) {
        BridgePaint paint = new BridgePaint();
        for (int bay = 0; bay < needs.length; bay++) {
            paint.bay(0, bay, needs[bay], 0);
        }
        paint.gang(1);
        paint.batch(99, 0, 0);
        Check.terms(paint, "");
        return paint;
    }

    private static void orders(BridgePaint paint, String what, int set, int moment, int best, int walked, int first) {
        Check.due(what + ": best", paint.order(0, 0, set, moment, 0), best);
        Check.due(what + ": walked", paint.order(0, 0, set, moment, 1), walked);
        Check.due(what + ": first", paint.order(0, 0, set, moment, 2), first);
    }

    private static void promise32() {
        BridgePaint paint = ready(2, 3, 4, 1);
        orders(paint, "one bay", 4, 10, 14, 14, 2);
        orders(paint, "two bays that lie beside one another", 3, 0, 6, 6, 0);
        orders(paint, "0 and 3: three bays on", 9, 5, 11, 11, 0);
        orders(paint, "all: 10 of work, 3 of way", 15, 0, 13, 13, 0);
        orders(paint, "1 and 3", 10, 0, 6, 6, 1);
        // Bay 0 has a nest on day 0, so it is the last one, and is open from hour 12 on.
        BridgePaint nested = ready(2, 3, 4, 1);
        nested.nest(0, 0, 0);
        Check.terms(nested, "stop if nest");
        Check.due("best behind the nest", nested.order(1, 0, 15, 0, 0), 14);
        Check.due("walked behind the nest", nested.order(1, 0, 15, 0, 1), 25);
        Check.due("2, 3, 1, 0 and 3, 2, 1, 0 end at 14: of several the least", nested.order(1, 0, 15, 0, 2), 2);
        Check.due("0 and 1: 1 first, as 0 waits in any case", nested.order(1, 0, 3, 0, 2), 1);
    }

    private static void promise32Jobs() {
        BridgePaint paint = ready(2, 3, 4, 1);
        Check.terms(paint, "dry 20");
        paint.job(1, 0, 0, 0, 1);
        orders(paint, "bay 0 from hour 0 on is ahead of the job there", 3, 0, 6, 6, 0);
        // From hour 1 on bay 0 may begin at 3 + 20 = 23 alone; bay 1 ends at 4, so that it goes ahead.
        orders(paint, "bay 0 when it is dry", 3, 1, 25, 29, 1);
        orders(paint, "bay 0 alone", 1, 1, 25, 25, 0);
        orders(paint, "bay 0 from hour 23 on", 3, 23, 29, 29, 0);
    }

    private static void promise32Six() {
        BridgePaint paint = ready(1, 2, 3, 4, 5, 6, 7, 8);
        orders(paint, "six bays", 0x3f, 0, 21 + 5, 21 + 5, 0);
        orders(paint, "six of eight bays", 0xfc, 0, 33 + 5, 33 + 5, 2);
        orders(paint, "bays far apart", 0x81, 0, 9 + 7, 9 + 7, 0);
        Check.argument("seven bays", () -> paint.order(0, 0, 0x7f, 0, 0));
        Check.argument("eight bays", () -> paint.order(0, 0, 0xff, 0, 0));
    }

    private static void promise32None() {
        BridgePaint paint = ready(2, 3, 4, 1);
        Check.terms(paint, "stop if 0 < 1");
        Check.terms(paint, "stop if height < 1 and day < 99 + 99 + 1; stop if height > 0 and hour > 3 or day > 0 and height > 0");
        for (int what = 0; what < 3; what++) {
            Check.due("never open, what " + what, paint.order(1, 0, 3, 0, what), -1);
        }
        orders(paint, "till the end of all", 3, 2394, 2400, 2400, 0);
        orders(paint, "the last moment", 8, 2399, 2400, 2400, 3);
        orders(paint, "not till the end of all", 3, 2395, -1, -1, -1);
        Check.due("bay 1 first, as bay 0 is open on day 199 alone", paint.order(2, 0, 3, 0, 0), 2390);
        Check.due("bay 0 first cannot be", paint.order(2, 0, 3, 0, 1), -1);
        Check.due("the first of the best", paint.order(2, 0, 3, 0, 2), 1);
    }

    private static void promise32Wrong() {
        BridgePaint paint = ready(2, 3);
        Check.argument("no bays", () -> paint.order(0, 0, 0, 0, 0));
        Check.argument("bay 2", () -> paint.order(0, 0, 4, 0, 0));
        Check.argument("below 0", () -> paint.order(0, 0, -1, 0, 0));
        Check.argument("least", () -> paint.order(0, 0, Integer.MIN_VALUE, 0, 0));
        Check.element("what 3", () -> paint.order(0, 0, 1, 0, 3));
        Check.element("what -1", () -> paint.order(0, 0, 1, 0, -1));
        Check.argument("the argument ahead of what", () -> paint.order(0, 0, 0, 0, 3));
        Check.index("terms 1", () -> paint.order(1, 0, 1, 0, 0));
        Check.index("gang 1", () -> paint.order(0, 1, 1, 0, 0));
        Check.index("moment 2400", () -> paint.order(0, 0, 1, 2400, 0));
        Check.index("moment -1", () -> paint.order(0, 0, 1, -1, 0));
        Check.index("the index first", () -> paint.order(0, 0, 0, 2400, 3));
        BridgePaint eight = ready(1, 1, 1, 1, 1, 1, 1, 1);
        Check.argument("a ninth bay", () -> eight.order(0, 0, 256, 0, 0));
        Check.due("the eighth bay", eight.order(0, 0, 128, 0, 2), 7);
    }

    private static void puts(BridgePaint paint, String what, int set, int moment, int... due) {
        Check.due(what + ": all ends together", paint.put(0, set, moment, -1), due[0]);
        for (int bay = 0; bay + 1 < due.length; bay++) {
            Check.due(what + ": the gang for bay " + bay, paint.put(0, set, moment, bay), due[bay + 1]);
        }
    }

    private static void promise33() {
        BridgePaint paint = ready(12, 6, 20);
        puts(paint, "one gang, one bay", 2, 10, 16, -1, 0, -1);
        puts(paint, "no bays", 0, 10, 0, -1, -1, -1);
        paint.gang(3);
        puts(paint, "two gangs: the better one where it saves more", 3, 0, 4 + 6, 1, 0, -1);
        puts(paint, "bays 1 and 2", 6, 0, 6 + 7, -1, 0, 1);
        paint.gang(3);
        puts(paint, "of several the least gang for the first bay", 3, 0, 4 + 2, 1, 2, -1);
        puts(paint, "all three", 7, 0, 4 + 6 + 7, 1, 0, 2);
        paint.gang(5);
        puts(paint, "all three of four", 7, 0, 4 + 2 + 4, 1, 2, 3);
        BridgePaint same = ready(1, 1, 1, 1);
        same.gang(5);
        same.gang(5);
        same.gang(5);
        puts(same, "all the same", 15, 7, 32, 0, 1, 2, 3);
        puts(same, "bays 1 and 3", 10, 7, 16, -1, 0, -1, 1);
    }

    private static void promise33Jobs() {
        BridgePaint paint = ready(12, 6);
        paint.gang(3);
        Check.terms(paint, "dry 40; stop if height > 0 and hour < 6");
        paint.job(1, 0, 0, 0, 0);
        puts(paint, "bay 0 from 52 on", 3, 5, 56 + 11, 1, 0);
        puts(paint, "bay 1 alone", 2, 5, 7, -1, 1);
        Check.due("by terms 1 bay 1 is closed to hour 6", paint.put(1, 2, 5, -1), 8);
    }

    private static void promise33None() {
        BridgePaint paint = ready(1, 1, 1, 1, 1);
        puts(paint, "more bays than gangs", 3, 0, -1, -1, -1);
        paint.gang(1);
        paint.gang(1);
        paint.gang(1);
        puts(paint, "five bays", 31, 0, -1, -1, -1, -1, -1, -1);
        puts(paint, "four bays", 30, 0, 4, -1, 0, 1, 2, 3);
        Check.terms(paint, "stop if height > 0");
        Check.due("bay 1 has no end", paint.put(1, 3, 0, -1), -1);
        Check.due("so none for bay 0", paint.put(1, 3, 0, 0), -1);
        Check.due("bay 0 alone has one", paint.put(1, 1, 0, 0), 0);
        BridgePaint late = ready(4, 1);
        late.gang(4);
        puts(late, "the better gang alone has an end there", 3, 2399, 4800, 1, 0);
        puts(late, "from 2396 on", 3, 2396, 2397 + 2397, 1, 0);
    }

    private static void promise33Wrong() {
        BridgePaint paint = ready(1, 1);
        Check.argument("bay 2", () -> paint.put(0, 4, 0, -1));
        Check.argument("below 0", () -> paint.put(0, -1, 0, -1));
        Check.index("terms 1", () -> paint.put(1, 1, 0, -1));
        Check.index("terms -1", () -> paint.put(-1, 1, 0, -1));
        Check.index("moment 2400", () -> paint.put(0, 1, 2400, -1));
        Check.index("moment -1", () -> paint.put(0, 1, -1, -1));
        Check.index("bay 2 asked", () -> paint.put(0, 1, 0, 2));
        Check.index("bay -2 asked", () -> paint.put(0, 1, 0, -2));
        Check.index("the index first", () -> paint.put(0, 4, 0, 2));
        BridgePaint without = new BridgePaint();
        Check.terms(without, "");
        Check.due("without bays and gangs", without.put(0, 0, 0, -1), 0);
    }
}
