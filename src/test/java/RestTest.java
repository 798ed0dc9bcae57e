/** Promises 40 to 49: painters by what peels, risk, colours, bolts, the image and counts. */
final class RestTest {
    private RestTest() {
    }

    public static void main(String[] args) {
        promise40();
        promise41();
        promise41Fractions();
        promise42();
        promise43();
        promise43Left();
        promise44();
        promise45();
        promise46();
        promise47();
        promise47All();
        promise48();
        promise49();
        Check.finish("RestTest");
    }

    /** Bays at heights 0, 5 and 9, of 4 hours each; three gangs of skill 4; a batch of 99 tins. */
    private static BridgePaint ready(String... texts) {
        BridgePaint paint = new BridgePaint();
        paint.bay(0, 0, 4, 300);
        paint.bay(1, 5, 4, 500);
        paint.bay(1, 9, 4, 100);
        paint.gang(4);
        paint.gang(4);
        paint.gang(4);
        paint.batch(99, 2, 100);
        for (String text : texts) {
            Check.terms(paint, text);
        }
        return paint;
    }

    private static void promise40() {
        BridgePaint paint = ready("");
        paint.job(0, 0, 0, 0, 0);
        paint.job(0, 0, 1, 0, 1);
        paint.days(2);
        paint.job(0, 0, 0, 0, 2);
        paint.peel(0);
        paint.days(1);
        paint.peel(2);
        paint.peel(1);
        Check.due("gang 0 on day 1", paint.peels(0, 1, false), 0);
        Check.due("gang 0 on day 2", paint.peels(0, 2, false), 1);
        Check.due("gang 0 on day 3", paint.peels(0, 3, false), 2);
        Check.due("all of gang 0 on day 0", paint.peels(0, 0, true), 1);
        Check.due("all of gang 0 on day 2", paint.peels(0, 2, true), 2);
        Check.due("gang 1", paint.peels(1, 199, false), 1);
        Check.due("all of gang 1", paint.peels(1, 0, true), 1);
        Check.due("gang 2", paint.peels(2, 199, false), 0);
        Check.due("all of gang 2", paint.peels(2, 199, true), 0);
        Check.index("gang 3", () -> paint.peels(3, 0, false));
        Check.index("gang -1", () -> paint.peels(-1, 0, true));
        Check.index("known 200", () -> paint.peels(0, 200, true));
        Check.index("known -1", () -> paint.peels(0, -1, false));
    }

    private static void promise41() {
        BridgePaint paint = ready("");
        Check.due("no jobs", paint.worst(0), -1);
        paint.job(0, 0, 2, 0, 0);
        Check.due("none peeled", paint.worst(199), -1);
        paint.days(1);
        paint.peel(0);
        Check.due("as known on day 0", paint.worst(0), -1);
        Check.due("as known on day 1", paint.worst(1), 2);
        paint.job(0, 0, 1, 0, 1);
        paint.peel(1);
        Check.due("1/1 and 1/1: the least", paint.worst(1), 1);
        paint.days(1);
        paint.job(0, 0, 1, 0, 2);
        Check.due("1/2 and 1/1", paint.worst(2), 2);
        Check.due("the third is not known on day 1", paint.worst(1), 1);
        Check.index("known 200", () -> paint.worst(200));
        Check.index("known -1", () -> paint.worst(-1));
    }

    private static void promise41Fractions() {
        BridgePaint paint = ready("");
        int[] all = {7, 3, 5};
        int[] peeled = {4, 2, 3};
        int job = 0;
        for (int gang = 0; gang < 3; gang++) {
            for (int i = 0; i < all[gang]; i++) {
                paint.job(0, 0, gang, 0, job);
                if (i < peeled[gang]) {
                    paint.peel(job);
                }
                job++;
            }
        }
        Check.due("4/7, 2/3, 3/5", paint.worst(0), 1);
        paint.job(0, 0, 1, 0, job);
        Check.due("4/7, 2/4, 3/5", paint.worst(0), 2);
        paint.peel(6);
        Check.due("5/7, 2/4, 3/5", paint.worst(0), 0);
        BridgePaint same = ready("");
        for (int i = 0; i < 6; i++) {
            same.job(0, 0, i < 4 ? 1 : 2, 0, i);
        }
        same.peel(0);
        same.peel(1);
        same.peel(4);
        Check.due("2/4 and 1/2", same.worst(0), 1);
    }

    private static void promise42() {
        BridgePaint paint = new BridgePaint();
        paint.bay(0, 0, 5, 0);
        paint.bay(0, 7, 5, 0);
        paint.gang(1);
        paint.batch(99, 0, 0);
        Check.terms(paint, "stop if wind > 8 or hour < 2");
        paint.job(0, 0, 0, 0, 0);
        paint.job(0, 1, 0, 0, 0);
        Check.due("its end", paint.look(1, 4), 7);
        Check.due("without wind", paint.risk(1), 0);
        paint.weather(0, 0, 0, 11, 3, 10);
        Check.due("height 0", paint.risk(0), 0);
        Check.due("five open moments", paint.risk(1), 5 * 3 * 7);
        paint.weather(0, 0, 3, 3, 9, 10);
        Check.due("not open at hour 3 now", paint.risk(1), 4 * 3 * 7);
        paint.weather(0, 0, 6, 6, -9, 10);
        Check.due("its last moment, wet", paint.risk(1), (3 * 3 + 8) * 7);
        paint.weather(0, 0, 7, 7, 8, 10);
        Check.due("its end is behind it", paint.risk(1), (3 * 3 + 8) * 7);
        paint.span(true, 0, 0);
        Check.due("a strike", paint.risk(1), 0);
        Check.index("job 2", () -> paint.risk(2));
        Check.index("job -1", () -> paint.risk(-1));
        BridgePaint last = ready("");
        last.weather(199, 199, 0, 11, 2, 10);
        last.job(0, 2, 0, 0, 2399);
        Check.due("the last moment of all", last.risk(0), 18);
    }

    private static void promise43() {
        BridgePaint paint = new BridgePaint();
        Check.due("no batch", paint.match(0, 0), -1);
        paint.batch(1, 0, 100);
        paint.batch(1, 0, 110);
        paint.batch(0, 0, 105);
        paint.batch(1, 0, 255);
        paint.batch(1, 0, 100);
        Check.due("the same", paint.match(100, 0), 0);
        Check.due("104", paint.match(104, 0), 0);
        Check.due("105: 5 either way, the least; none left of batch 2", paint.match(105, 0), 0);
        Check.due("106", paint.match(106, 0), 1);
        Check.due("0", paint.match(0, 0), 0);
        Check.due("255", paint.match(255, 0), 3);
        paint.days(4);
        paint.fail(0);
        Check.due("as known on day 3", paint.match(100, 3), 0);
        Check.due("as known on day 4", paint.match(100, 4), 4);
        Check.due("105 as known on day 4", paint.match(105, 4), 1);
        Check.argument("colour 256", () -> paint.match(256, 0));
        Check.argument("colour -1", () -> paint.match(-1, 0));
        Check.index("known 200", () -> paint.match(0, 200));
        Check.index("known -1", () -> paint.match(0, -1));
        Check.index("the index first", () -> paint.match(256, 200));
        for (int batch = 1; batch < 5; batch++) {
            paint.fail(batch);
        }
        Check.due("all failed", paint.match(1, 4), -1);
        Check.due("all failed, as known on day 0", paint.match(1, 0), 0);
    }

    private static void promise43Left() {
        BridgePaint paint = ready("");
        paint.batch(1, 0, 50);
        Check.due("one tin", paint.match(50, 0), 1);
        paint.days(1);
        paint.job(0, 0, 0, 1, 0);
        Check.due("no tin left", paint.match(50, 0), 0);
    }

    private static void promise44() {
        BridgePaint paint = ready();
        Check.due("bolt 1", paint.bolt(0, 0), 1);
        Check.due("bolt 2", paint.bolt(2, 199), 2);
        Check.index("bay 3", () -> paint.bolt(3, 0));
        Check.index("bay -1", () -> paint.bolt(-1, 0));
        Check.index("day 200", () -> paint.bolt(0, 200));
        Check.index("day -1", () -> paint.bolt(0, -1));
        for (int bolt = 3; bolt <= 30; bolt++) {
            Check.due("bolt " + bolt, paint.bolt(1, 7), bolt);
        }
        Check.due("a 31st bolt", paint.bolt(0, 7), -1);
        Check.index("a wrong 31st bolt", () -> paint.bolt(0, 200));
        Check.due("it did not come", paint.finds(0, 0, 199), 1);
        Check.due("30 bolts", paint.count(6), 30);
    }

    private static void promise45() {
        BridgePaint paint = ready();
        Check.due("none", paint.finds(0, 0, 199), 0);
        paint.bolt(0, 5);
        paint.bolt(0, 9);
        paint.bolt(0, 9);
        paint.bolt(1, 5);
        Check.due("5 to 9", paint.finds(0, 5, 9), 3);
        Check.due("5", paint.finds(0, 5, 5), 1);
        Check.due("6 to 9", paint.finds(0, 6, 9), 2);
        Check.due("6 to 8", paint.finds(0, 6, 8), 0);
        Check.due("10 to 199", paint.finds(0, 10, 199), 0);
        Check.due("another bay", paint.finds(1, 0, 199), 1);
        Check.argument("back", () -> paint.finds(0, 1, 0));
        Check.index("bay 3", () -> paint.finds(3, 0, 0));
        Check.index("from -1", () -> paint.finds(0, -1, 0));
        Check.index("to 200", () -> paint.finds(0, 0, 200));
        Check.index("the index first", () -> paint.finds(3, 1, 0));
    }

    private static void promise46() {
        BridgePaint paint = ready();
        Check.due("no bolts", paint.thick(), -1);
        paint.bolt(2, 5);
        Check.due("one", paint.thick(), 2);
        paint.bolt(1, 6);
        Check.due("one and one", paint.thick(), 1);
        paint.bolt(2, 199);
        Check.due("two and one", paint.thick(), 2);
        paint.bolt(0, 0);
        paint.bolt(0, 0);
        Check.due("two, one and two", paint.thick(), 0);
    }

    private static void promise47() {
        BridgePaint paint = ready("");
        paint.image();
        paint.bolt(0, 0);
        Check.due("back", paint.back(), true);
        Check.due("no bolt", paint.count(6), 0);
        paint.bolt(0, 0);
        paint.bolt(0, 0);
        Check.due("back again", paint.back(), true);
        Check.due("no bolt again", paint.count(6), 0);
        paint.bolt(1, 0);
        paint.image();
        paint.bolt(2, 0);
        paint.back();
        Check.due("the later image alone", paint.count(6), 1);
        Check.due("its bolt", paint.thick(), 1);
    }

    /** Everything that a call can tell is told, an image is kept, all is told otherwise, and all is as it was. */
    private static void promise47All() {
        BridgePaint paint = ready("stop if wet; stop if train; dry 3; holds 2; pay 7", "dry 1");
        tell(paint, 3);
        long[] before = all(paint);
        paint.image();
        tell(paint, 5);
        Check.terms(paint, "stop if nest; dry 9");
        paint.gang(5);
        paint.bay(1, 8, 17, 17);
        long[] between = all(paint);
        Check.tape(paint, "pay 1");
        Check.due("back", paint.back(), true);
        long[] after = all(paint);
        int changed = 0;
        for (int i = 0; i < before.length; i++) {
            Check.due("answer " + i, after[i], before[i]);
            changed += before[i] == between[i] ? 0 : 1;
        }
        Check.due("what was told between shows: " + changed, changed > 25, true);
        Check.due("the tape is none of it", paint.terms(), 2);
        Check.due("a third text again", paint.at(2, 0, 0, 0, 2), 1);
        Check.due("the first text is as it was", paint.at(0, 0, 0, 0, 2), 7);
    }

    private static void tell(BridgePaint paint, int n) {
        paint.days(n);
        paint.weather(0, 9, 0, n, n % 2 == 0 ? n : -n, n);
        paint.trains(1 << n);
        paint.span(false, n, n);
        paint.span(true, n + 1, n + 1);
        paint.nest(n % 3, 0, n);
        paint.batch(n, n, n);
        int job = paint.job(0, 0, n % 3, 0, 12 * n);
        paint.job(0, 1, 0, 0, 12 * n + 2);
        paint.peel(job);
        paint.fail(n == 3 ? 0 : 1);
        paint.rust(0, n, n + 1);
        paint.rust(1, n, n + 2);
        paint.reading(0, n, 100 + n);
        paint.cost(0, n, n);
        paint.wear(0, 100, 90, n);
        paint.bolt(n % 3, n);
    }

    private static long[] all(BridgePaint paint) {
        long[] found = new long[200];
        int at = 0;
        for (int what = 0; what < 10; what++) {
            found[at++] = paint.count(what);
        }
        for (int day = 0; day < 8; day++) {
            for (int what = 0; what < 8; what++) {
                found[at++] = paint.at(0, 0, day, 3, what);
            }
            found[at++] = paint.why(0, 0, day, 3);
            found[at++] = paint.steel(0, day + 3, 199, false);
            found[at++] = paint.steel(1, day, 199, true);
            found[at++] = paint.bare(0, day, day, 199);
        }
        for (int gang = 0; gang < 3; gang++) {
            found[at++] = paint.peels(gang, 199, false);
            found[at++] = paint.peels(gang, 199, true);
        }
        for (int batch = 0; batch < 2; batch++) {
            found[at++] = paint.left(batch);
            found[at++] = paint.recall(batch, 199, false);
        }
        found[at++] = paint.spent(4, -1);
        found[at++] = paint.spent(500, 0);
        found[at++] = paint.even(2);
        found[at++] = paint.match(0, 199);
        found[at++] = paint.worst(199);
        found[at++] = paint.thick();
        for (int moment = 38; moment < 56; moment++) {
            found[at++] = paint.may(0, moment) ? 1 : 0;
        }
        return found;
    }

    private static void promise48() {
        BridgePaint paint = ready("");
        Check.due("none was kept", paint.back(), false);
        Check.due("nothing happened", paint.count(0), 3);
        paint.days(7);
        paint.image();
        paint.days(9);
        paint.trains(1);
        Check.due("back", paint.back(), true);
        Check.due("today is day 7", paint.count(7), 7);
        Check.due("no trains", paint.at(0, 0, 0, 0, 6), 0);
        paint.days(1);
        Check.due("the image is kept", paint.back(), true);
        Check.due("today is day 7 again", paint.count(7), 7);
        Check.argument("wrong terms", () -> Check.terms(paint, "dry"));
        paint.feed(0, 0, 0, 0, 0);
        paint.back();
        Check.due("the fault is none of it", paint.fault(), 3);
        Check.due("the tape is none of it", paint.end(20), true);
        BridgePaint empty = new BridgePaint();
        empty.image();
        empty.bay(0, 0, 1, 0);
        Check.due("back to nothing", empty.back(), true);
        Check.due("nothing", empty.count(0), 0);
        Check.index("no bay", () -> empty.bolt(0, 0));
    }

    private static void promise49() {
        BridgePaint paint = ready("", "");
        paint.batch(1, 1, 1);
        paint.batch(1, 1, 1);
        paint.batch(1, 1, 1);
        for (int i = 0; i < 5; i++) {
            paint.job(0, 0, 0, 0, i);
        }
        for (int i = 0; i < 6; i++) {
            paint.reading(0, 0, 0);
        }
        for (int i = 0; i < 7; i++) {
            paint.bolt(0, 0);
        }
        paint.days(9);
        for (int i = 0; i < 8; i++) {
            paint.nest(0, 0, 0);
        }
        for (int i = 0; i < 10; i++) {
            paint.weather(0, 0, 0, 0, 0, 0);
        }
        int[] due = {3, 2, 3, 4, 5, 6, 7, 9, 8, 10};
        for (int what = 0; what < 10; what++) {
            Check.due("count(" + what + ")", paint.count(what), due[what]);
        }
        Check.due("count(10)", paint.count(10), -1);
        Check.due("count(-1)", paint.count(-1), -1);
        Check.due("count(least)", paint.count(Integer.MIN_VALUE), -1);
    }
}
