/** Promises 23 to 31: what is known of jobs and batches, bare days, rust, readings, steel. */
final class PastTest {
    private PastTest() {
    }

    public static void main(String[] args) {
        promise23();
        promise24();
        promise25();
        promise26();
        promise27();
        promise27Peeled();
        promise27Retold();
        promise28();
        promise29();
        promise30();
        promise30Readings();
        promise30Wrong();
        promise31();
        Check.finish("PastTest");
    }

    /** Bays of 1, 12 and 20 hours of work, a gang of skill 1, batches of 99 tins with lead 2, 3, 50. */
    private static BridgePaint ready(String... texts) {
        BridgePaint paint = new BridgePaint();
        paint.bay(0, 3, 1, 300);
        paint.bay(1, 9, 12, 500);
        paint.bay(0, 0, 20, 0);
        paint.gang(1);
        paint.batch(99, 2, 7);
        paint.batch(99, 3, 7);
        paint.batch(99, 50, 7);
        for (String text : texts) {
            Check.terms(paint, text);
        }
        return paint;
    }

    private static void promise23() {
        BridgePaint paint = ready("");
        Check.due("no job", paint.last(0, 199, 199), -1);
        paint.job(0, 1, 0, 0, 12);
        Check.due("its end is the day's end", paint.last(1, 1, 0), 0);
        Check.due("a day ahead", paint.last(1, 0, 0), -1);
        Check.due("another bay", paint.last(0, 199, 0), -1);
        paint.days(5);
        paint.job(0, 1, 0, 0, 0);
        Check.due("job 1 is not known on day 4", paint.last(1, 0, 4), -1);
        Check.due("job 1 is known on day 5", paint.last(1, 0, 5), 1);
        Check.due("the latest end", paint.last(1, 1, 5), 0);
        paint.job(0, 1, 0, 0, 25);
        Check.due("its end is on day 3", paint.last(1, 2, 199), 0);
        Check.due("on day 3", paint.last(1, 3, 199), 2);
        Check.due("on day 3, as known on day 4", paint.last(1, 3, 4), 0);
        BridgePaint same = ready("stop if hour < 6", "");
        same.job(0, 0, 0, 0, 1);
        same.job(0, 0, 0, 0, 0);
        Check.due("both end at 7", same.look(1, 4), same.look(0, 4));
        Check.due("of several the greatest number", same.last(0, 0, 0), 1);
        same.job(1, 0, 0, 0, 2);
        Check.due("an earlier end told later", same.last(0, 0, 0), 1);
        Check.index("bay 3", () -> paint.last(3, 0, 0));
        Check.index("day 200", () -> paint.last(0, 200, 0));
        Check.index("known 200", () -> paint.last(0, 0, 200));
        Check.index("known -1", () -> paint.last(0, 0, -1));
    }

    private static void promise24() {
        BridgePaint paint = ready("");
        paint.job(0, 0, 0, 0, 0);
        paint.job(0, 1, 0, 0, 0);
        paint.job(0, 2, 0, 1, 0);
        Check.due("bays 0 and 1", paint.recall(0, 0, false), 3);
        Check.due("bay 2", paint.recall(1, 0, false), 4);
        Check.due("none", paint.recall(2, 0, false), 0);
        Check.due("none is covered", paint.recall(0, 0, true), 0);
        paint.days(2);
        paint.job(0, 0, 0, 2, 10);
        paint.job(0, 0, 0, 0, 20);
        paint.job(0, 1, 0, 2, 20);
        Check.due("batch 2 at bay 0 ends ahead of batch 0 there", paint.recall(0, 2, true), 2);
        Check.due("batch 2 is covered at bay 0", paint.recall(2, 2, true), 1);
        Check.due("batch 2", paint.recall(2, 199, false), 3);
        Check.due("ahead of day 2 that is not known", paint.recall(2, 1, false), 0);
        Check.due("nor is what it covers", paint.recall(0, 1, true), 0);
        paint.days(1);
        paint.job(0, 0, 0, 2, 30);
        Check.due("over both", paint.recall(0, 3, true), 3);
        Check.due("as known on day 2", paint.recall(0, 2, true), 2);
        Check.due("no cover over batch 1", paint.recall(1, 3, true), 0);
        Check.index("batch 3", () -> paint.recall(3, 0, false));
        Check.index("batch -1", () -> paint.recall(-1, 0, false));
        Check.index("known 200", () -> paint.recall(0, 200, true));
        BridgePaint same = ready("stop if hour < 6");
        same.job(0, 0, 0, 0, 1);
        same.job(0, 0, 0, 1, 0);
        Check.due("as late is not later", same.recall(0, 0, true) + same.recall(1, 0, true), 0);
    }

    private static void promise25() {
        BridgePaint paint = ready("");
        Check.due("all", paint.left(2), 99);
        paint.job(0, 2, 0, 2, 0);
        Check.due("five for 20 hours", paint.left(2), 94);
        paint.job(0, 1, 0, 2, 0);
        Check.due("three for 12 hours", paint.left(2), 91);
        paint.job(0, 0, 0, 2, 0);
        Check.due("one for an hour", paint.left(2), 90);
        paint.job(0, 0, 0, 2, 0);
        Check.due("none for a job that is not", paint.left(2), 90);
        paint.peel(0);
        paint.fail(2);
        Check.due("used is used", paint.left(2), 90);
        Check.due("another batch", paint.left(1), 99);
        Check.index("batch 3", () -> paint.left(3));
        Check.index("batch -1", () -> paint.left(-1));
    }

    private static void promise26() {
        BridgePaint paint = ready("");
        paint.job(0, 2, 0, 1, 11);
        paint.days(1);
        paint.job(0, 1, 0, 2, 12);
        paint.job(0, 0, 0, 0, 24);
        Check.due("day 0: five of lead 3", paint.caught(0, 0, 0), 15);
        Check.due("day 1, known on day 0", paint.caught(1, 1, 0), 0);
        Check.due("day 1: three of lead 50", paint.caught(1, 1, 1), 150);
        Check.due("days 0 to 1", paint.caught(0, 1, 1), 165);
        Check.due("day 2: one of lead 2", paint.caught(2, 199, 199), 2);
        Check.due("days 1 to 2", paint.caught(1, 2, 1), 152);
        Check.due("day 3", paint.caught(3, 3, 1), 0);
        Check.argument("back", () -> paint.caught(1, 0, 0));
        Check.index("from -1", () -> paint.caught(-1, 0, 0));
        Check.index("to 200", () -> paint.caught(0, 200, 0));
        Check.index("known 200", () -> paint.caught(0, 0, 200));
        Check.index("the index first", () -> paint.caught(1, 0, 200));
    }

    private static void promise27() {
        BridgePaint paint = ready("holds 3", "holds 0", "");
        Check.due("bare from the first to the last day", paint.bare(0, 0, 199, 0), 200);
        paint.days(1);
        paint.job(0, 1, 0, 0, 18);
        Check.due("its last moment is on day 2, so held are 2 to 5", paint.bare(1, 0, 199, 1), 196);
        Check.due("day 1, on which it begins", paint.bare(1, 1, 1, 1), 1);
        Check.due("day 2", paint.bare(1, 2, 2, 1), 0);
        Check.due("day 5", paint.bare(1, 5, 5, 1), 0);
        Check.due("day 6", paint.bare(1, 6, 6, 1), 1);
        Check.due("days 1 to 6", paint.bare(1, 1, 6, 1), 2);
        Check.due("not known on day 0", paint.bare(1, 0, 199, 0), 200);
        Check.due("another bay", paint.bare(0, 0, 199, 1), 200);
        paint.job(1, 1, 0, 0, 48);
        Check.due("holds 0 on day 4, held in any case", paint.bare(1, 0, 199, 1), 196);
        paint.job(1, 1, 0, 0, 120);
        Check.due("holds 0: its last day alone", paint.bare(1, 9, 11, 1), 2);
        paint.job(2, 0, 0, 0, 2399);
        Check.due("day 199", paint.bare(0, 0, 199, 1), 199);
        paint.job(2, 0, 0, 0, 0);
        Check.due("31 days without holds", paint.bare(0, 0, 199, 1), 168);
        Check.argument("back", () -> paint.bare(0, 1, 0, 0));
        Check.index("bay 3", () -> paint.bare(3, 0, 0, 0));
        Check.index("from -1", () -> paint.bare(0, -1, 0, 0));
        Check.index("to 200", () -> paint.bare(0, 0, 200, 0));
        Check.index("known 200", () -> paint.bare(0, 0, 0, 200));
        Check.index("the index first", () -> paint.bare(0, 1, 0, -1));
    }

    private static void promise27Peeled() {
        BridgePaint paint = ready("holds 9");
        paint.job(0, 0, 0, 0, 24);
        Check.due("held are 2 to 11", paint.bare(0, 0, 199, 0), 190);
        paint.days(5);
        paint.peel(0);
        Check.due("held are 2 to 4", paint.bare(0, 0, 199, 5), 197);
        Check.due("day 4", paint.bare(0, 4, 4, 199), 0);
        Check.due("day 5", paint.bare(0, 5, 5, 199), 1);
        Check.due("as known on day 4", paint.bare(0, 0, 199, 4), 190);
        BridgePaint early = ready("holds 9");
        early.job(0, 0, 0, 0, 24);
        early.days(2);
        early.peel(0);
        Check.due("told on the day of its last moment: held on none", early.bare(0, 0, 199, 2), 200);
        early.job(0, 0, 0, 0, 30);
        Check.due("another job there holds", early.bare(0, 0, 199, 2), 190);
        BridgePaint late = ready("holds 9");
        late.job(0, 0, 0, 0, 24);
        late.days(100);
        late.peel(0);
        Check.due("told when it held no more", late.bare(0, 0, 199, 100), 190);
    }

    /** HOLDS is that at the job's begin, with the weather as it is told now. */
    private static void promise27Retold() {
        BridgePaint paint = ready("holds 1; holds 7 if wet");
        paint.job(0, 1, 0, 0, 6);
        Check.due("it is dry", paint.bare(1, 0, 199, 0), 198);
        paint.weather(0, 1, 7, 11, -1, 0);
        paint.weather(1, 1, 0, 11, -1, 0);
        Check.due("wet behind its begin", paint.bare(1, 0, 199, 0), 198);
        paint.weather(0, 0, 6, 6, -1, 0);
        Check.due("wet at its begin", paint.bare(1, 0, 199, 0), 192);
    }

    private static void promise28() {
        BridgePaint paint = ready("");
        paint.rust(1, 0, 20);
        Check.due("side 1, greatest", paint.steel(1, 5, 0, false), 400);
        Check.due("side 1, least", paint.steel(1, 5, 0, true), 500);
        Check.due("side 0 as at first", paint.steel(0, 5, 0, false), 290);
        Check.argument("21", () -> paint.rust(0, 0, 21));
        Check.argument("-1", () -> paint.rust(0, -1, 0));
        Check.argument("greatest ahead of least", () -> paint.rust(0, 3, 2));
        Check.index("side 2", () -> paint.rust(2, 0, 0));
        Check.index("side -1", () -> paint.rust(-1, 0, 0));
        Check.index("the index first", () -> paint.rust(2, 3, 2));
        Check.due("side 0 is as it was", paint.steel(0, 5, 0, false), 290);
        paint.rust(0, 4, 4);
        Check.due("side 0 told", paint.steel(0, 5, 0, true), 280);
        Check.due("side 1 is as it was", paint.steel(1, 5, 0, false), 400);
    }

    private static void promise29() {
        BridgePaint paint = ready("");
        Check.argument("steel 501", () -> paint.reading(0, 0, 501));
        Check.argument("steel -1", () -> paint.reading(0, 0, -1));
        Check.index("bay 3", () -> paint.reading(3, 0, 0));
        Check.index("bay -1", () -> paint.reading(-1, 0, 0));
        Check.index("day 200", () -> paint.reading(0, 200, 0));
        Check.index("the index first", () -> paint.reading(0, 200, 501));
        Check.due("none came", paint.count(5), 0);
        for (int reading = 0; reading < 30; reading++) {
            Check.due("reading " + reading, paint.reading(reading % 3, 199 - reading, 500), reading);
        }
        Check.full("a 31st reading", () -> paint.reading(0, 0, 0));
        Check.argument("a wrong 31st reading", () -> paint.reading(0, 0, 501));
        Check.due("30 readings", paint.count(5), 30);
    }

    private static void promise30() {
        BridgePaint paint = ready("holds 4");
        Check.due("day 0 is as it is", paint.steel(0, 0, 0, false), 300);
        Check.due("least on day 1", paint.steel(0, 1, 0, false), 298);
        Check.due("most on day 1", paint.steel(0, 1, 0, true), 299);
        Check.due("least on day 199", paint.steel(1, 199, 0, false), 102);
        Check.due("0 at least", paint.steel(0, 199, 0, false), 0);
        Check.due("0 stays", paint.steel(2, 50, 0, true), 0);
        paint.days(1);
        paint.job(0, 0, 0, 0, 24);
        Check.due("on day 3, held on 2", paint.steel(0, 3, 1, false), 296);
        Check.due("on day 7, held on 2 to 6", paint.steel(0, 7, 1, true), 298);
        Check.due("on day 8", paint.steel(0, 8, 1, true), 297);
        Check.due("as known on day 0", paint.steel(0, 7, 0, true), 293);
    }

    private static void promise30Readings() {
        BridgePaint paint = ready("");
        paint.days(10);
        paint.reading(0, 5, 200);
        Check.due("ahead of it", paint.steel(0, 4, 10, false), 292);
        Check.due("its day, least", paint.steel(0, 5, 10, false), 198);
        Check.due("its day, most", paint.steel(0, 5, 10, true), 202);
        Check.due("its day counts on the next one", paint.steel(0, 6, 10, false), 196);
        Check.due("most on the next one", paint.steel(0, 6, 10, true), 201);
        Check.due("as known on day 9", paint.steel(0, 6, 9, true), 294);
        Check.due("another bay", paint.steel(1, 6, 10, true), 494);
        paint.days(1);
        paint.reading(0, 5, 100);
        Check.due("the last told", paint.steel(0, 6, 11, true), 101);
        Check.due("as known on day 10", paint.steel(0, 6, 10, true), 201);
        paint.reading(0, 3, 400);
        Check.due("an earlier day told later", paint.steel(0, 6, 11, true), 101);
        Check.due("on day 4", paint.steel(0, 4, 11, false), 396);
        paint.reading(0, 20, 1);
        Check.due("0 at least, of the reading", paint.steel(0, 20, 11, false), 0);
        Check.due("3 at most", paint.steel(0, 20, 11, true), 3);
        Check.due("0 at least, behind it", paint.steel(0, 24, 11, true), 0);
        paint.reading(0, 30, 499);
        Check.due("500 at most", paint.steel(0, 30, 11, true), 500);
        Check.due("497 at least", paint.steel(0, 30, 11, false), 497);
        paint.job(0, 0, 0, 0, 32 * 12);
        Check.due("held on 32: bare on 30 and 31", paint.steel(0, 40, 11, true), 498);
    }

    private static void promise30Wrong() {
        BridgePaint paint = ready("");
        Check.index("bay 3", () -> paint.steel(3, 0, 0, true));
        Check.index("bay -1", () -> paint.steel(-1, 0, 0, true));
        Check.index("day 200", () -> paint.steel(0, 200, 0, true));
        Check.index("day -1", () -> paint.steel(0, -1, 0, false));
        Check.index("known 200", () -> paint.steel(0, 0, 200, false));
        Check.index("known -1", () -> paint.steel(0, 0, -1, false));
    }

    private static void promise31() {
        BridgePaint paint = ready("holds 4");
        Check.due("300 on day 0", paint.below(0, 300, 0), 1);
        Check.due("301", paint.below(0, 301, 0), 0);
        Check.due("298 on day 1", paint.below(0, 298, 0), 2);
        Check.due("297", paint.below(0, 297, 0), 2);
        Check.due("1", paint.below(0, 1, 0), 150);
        Check.due("500 on day 0, 102 on day 199", paint.below(1, 102, 0), -1);
        Check.due("103", paint.below(1, 103, 0), 199);
        paint.days(3);
        paint.job(0, 0, 0, 0, 12);
        Check.due("held on 1 to 5", paint.below(0, 298, 3), 7);
        Check.due("as known on day 2", paint.below(0, 298, 2), 2);
        paint.reading(0, 0, 500);
        Check.due("a reading", paint.below(0, 298, 3), 106);
        paint.reading(0, 50, 20);
        Check.due("a reading below it", paint.below(0, 298, 3), 50);
        Check.due("as known on day 2 again", paint.below(0, 298, 2), 2);
        Check.argument("limit 0", () -> paint.below(0, 0, 0));
        Check.argument("limit 501", () -> paint.below(0, 501, 0));
        Check.argument("limit -1", () -> paint.below(0, -1, 0));
        Check.index("bay 3", () -> paint.below(3, 1, 0));
        Check.index("known 200", () -> paint.below(0, 1, 200));
        Check.index("the index first", () -> paint.below(0, 0, 200));
        Check.due("the greatest limit", paint.below(1, 500, 0), 1);
        Check.due("as known on day 199", paint.below(0, 298, 199), 50);
    }
}
