/** Sentences of the document that name an edge, each with what is just within and just beyond it: what is known, coin and the rest. */
final class EdgePastTest {
    private EdgePastTest() {
    }

    public static void main(String[] args) {
        lastDays();
        lastOfSeveral();
        covered();
        coveredByTheLatest();
        caughtDays();
        holdsDays();
        holdsToTheEnd();
        holdsAtTheBegin();
        peeledDays();
        rustAtFirst();
        readingClamps();
        readingDays();
        readingsOfBays();
        steelDays();
        belowTheLimit();
        coinJustEnough();
        coinEnds();
        leastCoats();
        hardOnes();
        rowsTogether();
        priceWhole();
        priceMost();
        yearsEven();
        peelsKnown();
        worstParts();
        riskMoments();
        matchNearest();
        matchTins();
        matchFailed();
        bolts();
        imageOne();
        imageOfAll();
        imageNewRows();
        countOfNone();
        Check.finish("EdgePastTest");
    }

    /** Bays of 1, 4 and 12 hours with steel 500, 100 and 0; two gangs of skill 1; two batches of 99 tins. */
    private static BridgePaint ready(String... texts) {
        BridgePaint paint = new BridgePaint();
        paint.bay(0, 1, 1, 500);
        paint.bay(1, 9, 4, 100);
        paint.bay(0, 0, 12, 0);
        paint.gang(1);
        paint.gang(1);
        paint.batch(99, 1, 10);
        paint.batch(99, 50, 20);
        for (String text : texts) {
            Check.terms(paint, text);
        }
        return paint;
    }

    /** LAST: "that END on or ahead of the end of that DAY (12 MOMENTS)" */
    private static void lastDays() {
        for (int end : new int[] {1, 11, 12, 13, 24, 25, 2388, 2389, 2400}) {
            BridgePaint paint = ready("");
            Check.due("a job", paint.job(0, 0, 0, 0, end - 1), 0);
            Check.due("its end", paint.look(0, 4), end);
            int day = (end - 1) / 12;
            Check.due("on its day, end " + end, paint.last(0, day, 0), 0);
            if (day > 0) {
                Check.due("on the day ahead, end " + end, paint.last(0, day - 1, 0), -1);
            }
            Check.due("on day 199, end " + end, paint.last(0, 199, 0), 0);
            Check.due("another bay", paint.last(1, 199, 0), -1);
        }
    }

    /** "that with the latest END, of several the greatest number" */
    private static void lastOfSeveral() {
        BridgePaint paint = ready("", "stop if hour < 11");
        Check.due("job 0 ends at 12", paint.job(1, 0, 0, 0, 3), 0);
        Check.due("job 1 ends at 12", paint.job(1, 0, 0, 0, 2), 1);
        Check.due("the greater number", paint.last(0, 0, 0), 1);
        Check.due("job 2 ends at 2", paint.job(0, 0, 0, 0, 1), 2);
        Check.due("an earlier end told later", paint.last(0, 0, 0), 1);
        paint.days(1);
        Check.due("job 3 ends at 12", paint.job(1, 0, 0, 0, 0), 3);
        Check.due("as known on day 0", paint.last(0, 0, 0), 1);
        Check.due("as known on day 1", paint.last(0, 0, 1), 3);
        Check.due("job 4 ends at 13", paint.job(0, 0, 0, 0, 12), 4);
        Check.due("not on day 0", paint.last(0, 0, 1), 3);
        Check.due("on day 1", paint.last(0, 1, 1), 4);
        Check.due("on day 1, as known on day 0", paint.last(0, 1, 0), 1);
    }

    /** "COVERED: those of these where a JOB of another BATCH ends later than all of it there." */
    private static void covered() {
        BridgePaint paint = ready("", "stop if hour < 11");
        Check.due("batch 0 to 12", paint.job(1, 0, 0, 0, 3), 0);
        Check.due("batch 1 to 12", paint.job(1, 0, 0, 1, 2), 1);
        Check.due("as late is not later", paint.recall(0, 0, true), 0);
        Check.due("as late is not later, the other way", paint.recall(1, 0, true), 0);
        Check.due("batch 1 to 13", paint.job(0, 0, 0, 1, 12), 2);
        Check.due("a moment later", paint.recall(0, 0, true), 1);
        Check.due("batch 1 is not covered", paint.recall(1, 0, true), 0);
        Check.due("batch 0 to 14", paint.job(0, 0, 0, 0, 13), 3);
        Check.due("not later than all of it", paint.recall(0, 0, true), 0);
        Check.due("all of batch 1 is", paint.recall(1, 0, true), 1);
        Check.due("batch 1 at another bay", paint.job(0, 1, 0, 1, 50), 4);
        Check.due("it covers nothing there", paint.recall(0, 0, true), 0);
        Check.due("a bay without a job of it is none of these", paint.recall(0, 0, false), 1);
        Check.due("both bays", paint.recall(1, 0, false), 3);
        paint.days(1);
        Check.due("batch 0 at bay 1", paint.job(0, 1, 0, 0, 60), 5);
        Check.due("not known on day 0", paint.recall(1, 0, true), 1);
        Check.due("known on day 1", paint.recall(1, 1, true), 3);
        Check.due("a batch that failed, and a job that peels, are none the less told", paint.fail(1) && paint.peel(4), true);
        Check.due("as ever", paint.recall(1, 1, true), 3);
        Check.due("as ever, all", paint.recall(1, 1, false), 3);
    }

    /** "later than all of it": the latest one counts, not the one that is told last. */
    private static void coveredByTheLatest() {
        int[][] ends = {{50, 30, 40}, {50, 30, 60}, {30, 50, 40}, {30, 50, 60}, {50, 30, 20}, {7, 5, 6}};
        for (int[] end : ends) {
            for (int own = 0; own < 2; own++) {
                BridgePaint paint = ready("");
                paint.job(0, 0, 0, own, end[0] - 1);
                paint.job(0, 0, 0, own, end[1] - 1);
                paint.job(0, 0, 0, 1 - own, end[2] - 1);
                boolean isLater = end[2] > Math.max(end[0], end[1]);
                Check.due("covered by " + end[2], paint.recall(own, 0, true), isLater ? 1 : 0);
                Check.due("covers " + end[2], paint.recall(1 - own, 0, true), isLater ? 0 : 1);
            }
        }
    }

    /** "JOBS known whose BEGIN lies in DAYS from one to another one" */
    private static void caughtDays() {
        int[] begins = {0, 11, 12, 23, 24, 2388, 2399};
        for (int begin : begins) {
            BridgePaint paint = ready("");
            Check.due("a job", paint.job(0, 0, 0, 1, begin), 0);
            int day = begin / 12;
            Check.due("on its day, " + begin, paint.caught(day, day, 0), 50);
            Check.due("on all days", paint.caught(0, 199, 0), 50);
            Check.due("from its day on", paint.caught(day, 199, 0), 50);
            Check.due("to its day", paint.caught(0, day, 0), 50);
            if (day > 0) {
                Check.due("to the day ahead", paint.caught(0, day - 1, 0), 0);
            }
            if (day < 199) {
                Check.due("from the day behind on", paint.caught(day + 1, 199, 0), 0);
            }
        }
        BridgePaint over = ready("");
        over.job(0, 2, 0, 1, 6);
        Check.due("its begin counts", over.caught(0, 0, 0), 150);
        Check.due("its end does not", over.caught(1, 1, 0), 0);
    }

    private static void held(BridgePaint paint, int bay, int first, int last) {
        for (int day = 0; day < 200; day++) {
            boolean isBare = day < first || day > last;
            if (day < 4 || day > 195 || Math.abs(day - first) < 3 || Math.abs(day - last) < 3) {
                Check.due("bare on day " + day + ", held " + first + " to " + last,
                        paint.bare(bay, day, day, 199), isBare ? 1 : 0);
            }
        }
        int held = Math.max(0, Math.min(last, 199) - first + 1);
        Check.due("bare on all days, held " + first + " to " + last, paint.bare(bay, 0, 199, 199), 200 - held);
    }

    /** "the DAY is that of its last MOMENT or one of as many behind it as HOLDS says" */
    private static void holdsDays() {
        for (int holds : new int[] {0, 1, 2, 30, 98, 99}) {
            for (int begin : new int[] {0, 11, 12, 600, 1200}) {
                BridgePaint paint = ready("holds " + holds);
                paint.job(0, 0, 0, 0, begin);
                held(paint, 0, begin / 12, begin / 12 + holds);
                Check.due("another bay", paint.bare(1, 0, 199, 199), 200);
            }
        }
        for (int begin : new int[] {8, 9, 10, 11, 12}) {
            BridgePaint paint = ready("holds 3");
            paint.job(0, 1, 0, 0, begin);
            held(paint, 1, (begin + 3) / 12, (begin + 3) / 12 + 3);
        }
        BridgePaint without = ready("");
        without.job(0, 0, 0, 0, 0);
        held(without, 0, 0, 30);
        Check.due("no jobs", without.bare(2, 0, 199, 199), 200);
        Check.due("no jobs on day 199", without.bare(2, 199, 199, 0), 1);
        Check.due("no jobs on day 0", without.bare(2, 0, 0, 0), 1);
    }

    private static void holdsToTheEnd() {
        for (int day : new int[] {99, 100, 101, 198, 199}) {
            BridgePaint paint = ready("holds 99");
            Check.due("a job on day " + day, paint.job(0, 0, 0, 0, 12 * day), 0);
            held(paint, 0, day, Math.min(199, day + 99));
        }
        BridgePaint last = ready("holds 0");
        last.job(0, 0, 0, 0, 2399);
        held(last, 0, 199, 199);
        BridgePaint two = ready("holds 2");
        two.job(0, 0, 0, 0, 12 * 10);
        two.job(0, 0, 0, 0, 12 * 13);
        held(two, 0, 10, 15);
        two.job(0, 0, 0, 0, 12 * 17);
        Check.due("a day between two", two.bare(0, 16, 16, 0), 1);
        Check.due("all of both", two.bare(0, 10, 19, 0), 1);
    }

    /** "(by its TERMS at its BEGIN)", with WEATHER, trains, NESTS as they are told now */
    private static void holdsAtTheBegin() {
        String[] conditions = {"wet", "train", "nest", "wind > 3", "heat > 20", "hour > 4", "height > 8", "side > 0"};
        for (String condition : conditions) {
            BridgePaint paint = ready("holds 2;holds 5 if " + condition);
            paint.job(0, 1, 0, 0, 5);
            boolean isAlways = condition.startsWith("hour") || condition.startsWith("height") || condition.startsWith("side");
            held(paint, 1, 0, isAlways ? 5 : 2);
            paint.weather(0, 0, 6, 11, -5, 21);
            paint.trains(0xfc0);
            held(paint, 1, 0, isAlways ? 5 : 2);
            paint.weather(0, 0, 5, 5, -5, 21);
            paint.trains(1 << 5);
            paint.nest(1, 0, 0);
            held(paint, 1, 0, 5);
            paint.job(0, 0, 0, 0, 3);
            held(paint, 0, 0, 2);
        }
        BridgePaint day = ready("holds 1 if day > 0;holds 4 if day < 1");
        day.job(0, 2, 0, 0, 11);
        held(day, 2, 1, 5);
    }

    /** "a JOB that is known to PEEL holds no longer than to the DAY ahead of that on which it was told so" */
    private static void peeledDays() {
        for (int told : new int[] {0, 1, 5, 6, 7, 8, 9, 10, 11, 199}) {
            BridgePaint paint = ready("holds 4");
            paint.job(0, 0, 0, 0, 12 * 5);
            paint.days(told);
            paint.peel(0);
            held(paint, 0, 5, Math.min(9, told - 1));
            if (told > 0) {
                Check.due("as known on the day ahead", paint.bare(0, 0, 199, told - 1), 195);
            }
            Check.due("as known on the day", paint.bare(0, 0, 199, told), 200 - Math.max(0, Math.min(5, told - 5)));
            Check.due("told again", paint.peel(0), false);
        }
    }

    /** RUST: "1 to 2 at first", "0 to 20 each", by SIDE */
    private static void rustAtFirst() {
        BridgePaint paint = ready("");
        Check.due("side 0, least loss", paint.steel(0, 10, 0, true), 490);
        Check.due("side 0, greatest loss", paint.steel(0, 10, 0, false), 480);
        Check.due("side 1, least loss", paint.steel(1, 10, 0, true), 90);
        Check.due("side 1, greatest loss", paint.steel(1, 10, 0, false), 80);
        paint.rust(0, 0, 0);
        Check.due("none is lost", paint.steel(0, 199, 0, false), 500);
        paint.rust(0, 20, 20);
        Check.due("20 a day, most", paint.steel(0, 24, 0, true), 20);
        Check.due("20 a day, to 0", paint.steel(0, 25, 0, true), 0);
        Check.due("20 a day, 0 at least", paint.steel(0, 26, 0, true), 0);
        Check.due("20 a day, least on day 199", paint.steel(0, 199, 0, false), 0);
        paint.rust(0, 0, 20);
        Check.due("0 to 20, most", paint.steel(0, 199, 0, true), 500);
        Check.due("0 to 20, least", paint.steel(0, 1, 0, false), 480);
        Check.due("side 1 is as it was", paint.steel(1, 10, 0, false), 80);
        paint.rust(1, 3, 3);
        Check.due("side 1 told", paint.steel(1, 1, 0, true), 97);
        Check.due("side 0 is as it was told", paint.steel(0, 1, 0, true), 500);
    }

    /** "2 less and 2 more (0 to 500)"; "STEEL at first as it is" */
    private static void readingClamps() {
        int[] reads = {0, 1, 2, 3, 497, 498, 499, 500};
        int[] least = {0, 0, 0, 1, 495, 496, 497, 498};
        int[] most = {2, 3, 4, 5, 499, 500, 500, 500};
        for (int i = 0; i < reads.length; i++) {
            BridgePaint paint = ready("");
            paint.reading(0, 0, reads[i]);
            paint.reading(0, 100, reads[i]);
            for (int day : new int[] {0, 100}) {
                Check.due("least of " + reads[i], paint.steel(0, day, 0, false), least[i]);
                Check.due("most of " + reads[i], paint.steel(0, day, 0, true), most[i]);
                Check.due("least a day later", paint.steel(0, day + 1, 0, false), Math.max(0, least[i] - 2));
                Check.due("most a day later", paint.steel(0, day + 1, 0, true), most[i] - 1);
            }
        }
        for (int first : new int[] {0, 1, 2, 498, 499, 500}) {
            BridgePaint paint = new BridgePaint();
            paint.bay(0, 0, 1, first);
            Check.due("at first as it is, least", paint.steel(0, 0, 0, false), first);
            Check.due("at first as it is, most", paint.steel(0, 0, 0, true), first);
            Check.due("a day later, least", paint.steel(0, 1, 0, false), Math.max(0, first - 2));
            Check.due("a day later, most", paint.steel(0, 1, 0, true), Math.max(0, first - 1));
        }
    }

    /** "from the READING of that DAY or the latest one ahead of it (of several the last told)" */
    private static void readingDays() {
        BridgePaint paint = ready("");
        paint.reading(0, 10, 300);
        paint.reading(0, 20, 200);
        Check.due("the day ahead of both", paint.steel(0, 9, 0, true), 491);
        Check.due("its day", paint.steel(0, 10, 0, true), 302);
        Check.due("the day behind it", paint.steel(0, 11, 0, true), 301);
        Check.due("the day ahead of the second", paint.steel(0, 19, 0, true), 293);
        Check.due("the day of the second", paint.steel(0, 20, 0, true), 202);
        paint.reading(0, 10, 400);
        Check.due("of several the last told", paint.steel(0, 10, 0, true), 402);
        Check.due("the second is later none the less", paint.steel(0, 21, 0, true), 201);
        paint.reading(0, 199, 50);
        Check.due("day 198", paint.steel(0, 198, 0, true), 202 - 178);
        Check.due("day 199", paint.steel(0, 199, 0, true), 52);
        paint.reading(0, 0, 7);
        Check.due("day 0", paint.steel(0, 0, 0, false), 5);
        Check.due("day 1", paint.steel(0, 1, 0, false), 3);
        BridgePaint known = ready("");
        known.days(4);
        known.reading(0, 10, 300);
        known.days(1);
        known.reading(0, 10, 250);
        known.reading(0, 12, 200);
        Check.due("as known on day 3", known.steel(0, 12, 3, true), 488);
        Check.due("as known on day 4", known.steel(0, 12, 4, true), 300);
        Check.due("as known on day 5", known.steel(0, 12, 5, true), 202);
        Check.due("day 11 as known on day 4", known.steel(0, 11, 4, true), 301);
        Check.due("day 11 as known on day 5", known.steel(0, 11, 5, true), 251);
    }

    private static void readingsOfBays() {
        BridgePaint paint = ready("");
        paint.reading(1, 3, 50);
        paint.reading(2, 3, 40);
        Check.due("bay 0 has none", paint.steel(0, 3, 0, true), 497);
        Check.due("bay 1", paint.steel(1, 3, 0, true), 52);
        Check.due("bay 2", paint.steel(2, 3, 0, true), 42);
        paint.reading(0, 3, 30);
        Check.due("bay 1 is as it was", paint.steel(1, 3, 0, true), 52);
        Check.due("bay 0", paint.steel(0, 3, 0, true), 32);
    }

    /** "for each BARE DAY from there on (the DAY of the READING, or DAY 0, too; the DAY asked for not); 0 at least" */
    private static void steelDays() {
        BridgePaint paint = ready("holds 1");
        paint.job(0, 0, 0, 0, 0);
        Check.due("day 0 is held", paint.steel(0, 1, 0, true), 500);
        Check.due("day 1 is held", paint.steel(0, 2, 0, true), 500);
        Check.due("day 2 is bare", paint.steel(0, 3, 0, true), 499);
        paint.reading(0, 1, 400);
        Check.due("the reading's day is held", paint.steel(0, 2, 0, true), 402);
        paint.reading(0, 2, 400);
        Check.due("the reading's day is bare", paint.steel(0, 3, 0, true), 401);
        Check.due("the day asked for does not count", paint.steel(0, 2, 0, true), 402);
        paint.days(1);
        paint.job(0, 0, 0, 0, 12 * 50);
        Check.due("day 52, held on 50 and 51", paint.steel(0, 52, 1, true), 402 - 48);
        Check.due("day 52, as known on day 0", paint.steel(0, 52, 0, true), 402 - 50);
        paint.peel(1);
        Check.due("as it peels it holds none of it", paint.steel(0, 52, 1, true), 402 - 50);
    }

    /** "the first DAY on which the least STEEL is below a limit (1 to 500); none" */
    private static void belowTheLimit() {
        BridgePaint paint = ready("");
        Check.due("500 is not below 500", paint.below(0, 500, 0), 1);
        Check.due("498 is not below 498", paint.below(0, 498, 0), 2);
        Check.due("498 is below 499", paint.below(0, 499, 0), 1);
        Check.due("on day 199 there are 102", paint.below(0, 103, 0), 199);
        Check.due("102 is not below 102", paint.below(0, 102, 0), -1);
        Check.due("100 on day 0", paint.below(1, 100, 0), 1);
        Check.due("100 is below 101", paint.below(1, 101, 0), 0);
        Check.due("1 on no day but when it is 0", paint.below(1, 1, 0), 50);
        Check.due("0 from day 0 on", paint.below(2, 1, 0), 0);
        paint.rust(1, 0, 0);
        Check.due("never", paint.below(1, 100, 0), -1);
        paint.reading(1, 199, 3);
        Check.due("1 is not below 1", paint.below(1, 1, 0), -1);
        Check.due("1 is below 2", paint.below(1, 2, 0), 199);
        paint.reading(1, 20, 101);
        Check.due("99 by a reading", paint.below(1, 100, 0), 20);
        paint.reading(1, 20, 102);
        Check.due("100 by a reading", paint.below(1, 100, 0), 199);
    }

    private static void spends(BridgePaint paint, int coin, int wear, int... coats) {
        Check.due("wear for " + coin, paint.spent(coin, -1), wear);
        for (int bay = 0; bay < coats.length; bay++) {
            Check.due("coats of bay " + bay + " for " + coin, paint.spent(coin, bay), coats[bay]);
        }
    }

    /** "for so much coin (0 to 500) the least WEAR of all BAYS together" */
    private static void coinJustEnough() {
        BridgePaint paint = ready();
        spends(paint, 0, 0, 0, 0, 0);
        spends(paint, 500, 0, 0, 0, 0);
        for (int bay = 0; bay < 3; bay++) {
            paint.cost(bay, 10 + bay, 99);
            paint.wear(bay, 999, 100, 0);
        }
        spends(paint, 0, 2997, 0, 0, 0);
        spends(paint, 9, 2997, 0, 0, 0);
        spends(paint, 10, 2098, 1, 0, 0);
        spends(paint, 11, 2098, 0, 1, 0);
        spends(paint, 12, 2098, 0, 0, 1);
        spends(paint, 20, 2098, 0, 0, 1);
        spends(paint, 21, 1199, 1, 1, 0);
        spends(paint, 22, 1199, 1, 0, 1);
        spends(paint, 23, 1199, 0, 1, 1);
        spends(paint, 32, 1199, 0, 1, 1);
        spends(paint, 33, 300, 1, 1, 1);
        spends(paint, 119, 300, 1, 1, 1);
        spends(paint, 120, 200, 1, 1, 2);
        spends(paint, 122, 200, 1, 1, 2);
        spends(paint, 296, 100, 1, 2, 2);
        spends(paint, 297, 0, 2, 2, 2);
        spends(paint, 500, 0, 2, 2, 2);
    }

    /** "what 1 coat and 2 coats cost (0 to 99 each; 0 at first), and the WEAR with 0, 1, 2 coats (0 to 999 each; 0 at first)" */
    private static void coinEnds() {
        BridgePaint paint = ready();
        paint.wear(0, 1, 0, 0);
        spends(paint, 0, 0, 1, 0, 0);
        paint.wear(0, 0, 999, 999);
        spends(paint, 0, 0, 0, 0, 0);
        paint.wear(0, 999, 999, 998);
        spends(paint, 0, 998, 2, 0, 0);
        paint.cost(0, 0, 1);
        spends(paint, 0, 999, 0, 0, 0);
        spends(paint, 1, 998, 2, 0, 0);
        paint.cost(0, 99, 0);
        paint.wear(0, 999, 0, 500);
        spends(paint, 0, 500, 2, 0, 0);
        spends(paint, 98, 500, 2, 0, 0);
        spends(paint, 99, 0, 1, 0, 0);
        BridgePaint eight = new BridgePaint();
        for (int bay = 0; bay < 8; bay++) {
            eight.bay(0, 0, 1, 500);
            eight.cost(bay, 99, 99);
            eight.wear(bay, 999, 999, 999);
        }
        spends(eight, 500, 7992, 0, 0, 0, 0, 0, 0, 0, 0);
        spends(eight, 0, 7992, 0, 0, 0, 0, 0, 0, 0, 0);
        for (int bay = 0; bay < 8; bay++) {
            eight.wear(bay, 999, 1, 0);
        }
        spends(eight, 495, 3 * 999, 0, 0, 0, 2, 2, 2, 2, 2);
        spends(eight, 494, 4 * 999, 0, 0, 0, 0, 2, 2, 2, 2);
        spends(eight, 500, 3 * 999, 0, 0, 0, 2, 2, 2, 2, 2);
        Check.argument("501", () -> eight.spent(501, -1));
    }

    /** "of several the least number of coats for BAY 0, then for BAY 1, and so on" */
    private static void leastCoats() {
        BridgePaint paint = ready();
        for (int bay = 0; bay < 3; bay++) {
            paint.cost(bay, 1, 2);
            paint.wear(bay, 4, 3, 2);
        }
        spends(paint, 0, 12, 0, 0, 0);
        spends(paint, 1, 11, 0, 0, 1);
        spends(paint, 2, 10, 0, 0, 2);
        spends(paint, 3, 9, 0, 1, 2);
        spends(paint, 4, 8, 0, 2, 2);
        spends(paint, 5, 7, 1, 2, 2);
        spends(paint, 6, 6, 2, 2, 2);
        spends(paint, 7, 6, 2, 2, 2);
        paint.wear(0, 4, 3, 3);
        spends(paint, 6, 7, 1, 2, 2);
        paint.wear(1, 4, 4, 4);
        spends(paint, 6, 9, 1, 0, 2);
        paint.wear(2, 5, 5, 4);
        spends(paint, 6, 11, 1, 0, 2);
        spends(paint, 2, 12, 0, 0, 2);
        spends(paint, 1, 12, 1, 0, 0);
    }

    /** "behind as many hard ones as told (1 to 20)" of "so many years (1 to 20)", "H of 4 parts" */
    private static void hardOnes() {
        BridgePaint paint = new BridgePaint();
        for (int years = 1; years <= 20; years++) {
            long all = 1L << 2 * years;
            Check.due("always hard, as many as years", paint.promise(years, 4, years), all);
            Check.due("never hard", paint.promise(years, 0, 1), 0);
            for (int h = 1; h <= 3; h++) {
                long mild = 1;
                long hard = 1;
                for (int year = 0; year < years; year++) {
                    mild *= 4 - h;
                    hard *= h;
                }
                Check.due("one hard one: all but the mild rows", paint.promise(years, h, 1), all - mild);
                Check.due("all are hard", paint.promise(years, h, years), hard);
                Check.due("all but one are hard", years == 1 ? 0 : paint.promise(years, h, years - 1) - hard,
                        years == 1 ? 0 : years * hard / h * (4 - h));
            }
            if (years < 20) {
                int more = years + 1;
                Check.due("more hard ones than years", paint.promise(years, 4, more), 0);
                Check.due("20 hard ones", paint.promise(years, 4, 20), 0);
            }
        }
        Check.due("ten of 20 years, half of them hard", paint.promise(20, 2, 10) + paint.promise(20, 2, 11), 1L << 40);
        Check.argument("21 years", () -> paint.promise(21, 4, 20));
        Check.argument("21 hard ones", () -> paint.promise(20, 4, 21));
        Check.argument("no years", () -> paint.promise(0, 0, 1));
        Check.argument("no hard ones", () -> paint.promise(1, 0, 0));
        Check.argument("5 parts", () -> paint.promise(1, 5, 1));
        Check.argument("-1 parts", () -> paint.promise(1, -1, 1));
    }

    /** The rows that fail behind so many hard ones are fewer the more are told, and those of all numbers are all. */
    private static void rowsTogether() {
        BridgePaint paint = new BridgePaint();
        for (int h = 0; h <= 4; h++) {
            long sum = 0;
            for (int hard = 1; hard <= 20; hard++) {
                long rows = paint.promise(20, h, hard);
                Check.due("fewer", hard == 1 || rows <= paint.promise(20, h, hard - 1), true);
                sum += rows;
            }
            // Each row counts once for each of its hard ones: of 20 years H in 4.
            Check.due("hard ones of all rows, H " + h, sum, 20L * h * (1L << 38));
        }
    }

    /** "the greatest whole PRICE at which what is to be awaited is not more than always comes to in these years" */
    private static void priceWhole() {
        for (int always : new int[] {0, 1, 4, 5, 9, 10, 37, 100}) {
            BridgePaint paint = new BridgePaint();
            for (int years = 1; years <= 6; years++) {
                for (int h = 0; h <= 4; h++) {
                    for (int hard = 1; hard <= years + 1; hard++) {
                        long all = 1L << 2 * years;
                        long paid = all + paint.promise(years, h, hard);
                        long price = paint.edge(years, h, hard, always);
                        String what = "edge(" + years + ", " + h + ", " + hard + ", " + always + ")";
                        Check.due(what + " is not more", price * paid <= always * years * all, true);
                        Check.due(what + ", one more is", (price + 1) * paid > always * years * all, true);
                    }
                }
            }
        }
        BridgePaint paint = new BridgePaint();
        Check.due("just as much: 5 by 1.25", paint.edge(1, 1, 1, 5), 4);
        Check.due("a little less: 4 by 1.25", paint.edge(1, 1, 1, 4), 3);
        Check.due("more hard ones than years", paint.edge(1, 4, 2, 7), 7);
        Check.due("nothing", paint.edge(1, 4, 1, 0), 0);
        Check.due("half of one", paint.edge(1, 4, 1, 1), 0);
    }

    /** "PRICE (0 to 9999)"; "99999, if that is above 9999" */
    private static void priceMost() {
        BridgePaint paint = new BridgePaint();
        Check.due("9999 by 11 years", paint.edge(11, 0, 1, 909), 9999);
        Check.due("10010 by 11 years", paint.edge(11, 0, 1, 910), 99999);
        Check.due("9996 by 12 years", paint.edge(12, 0, 1, 833), 9996);
        Check.due("10008 by 12 years", paint.edge(12, 0, 1, 834), 99999);
        Check.due("10000 by 16 years", paint.edge(16, 0, 1, 625), 99999);
        Check.due("9984 by 16 years", paint.edge(16, 0, 1, 624), 9984);
        Check.due("half of 19980", paint.edge(20, 4, 1, 999), 9990);
        Check.due("all of 19980", paint.edge(20, 0, 1, 999), 99999);
        Check.due("all of 19980, 20 hard ones of 3 in 4", paint.edge(20, 3, 20, 999), 99999);
        Check.due("999 in one year", paint.edge(1, 0, 1, 999), 999);
        // 16 by 23 of 2 times 999 and of 20 times 999: the first is below, the second is not.
        Check.due("two years", paint.edge(2, 1, 1, 999), 1389);
        Check.argument("1000", () -> paint.edge(1, 0, 1, 1000));
        Check.argument("-1", () -> paint.edge(1, 0, 1, -1));
    }

    private static BridgePaint needing(int... needs) {
        BridgePaint paint = new BridgePaint();
        for (int need : needs) {
            paint.bay(0, 0, need, 0);
        }
        return paint;
    }

    private static void evens(BridgePaint paint, int... due) {
        for (int years = 1; years <= 4; years++) {
            Check.due("even(" + years + ")", paint.even(years), due[years - 1]);
        }
    }

    /** "BAYS by numbers parted into so many years (1 to 4), each a row of them that lie beside one another (perhaps none)" */
    private static void yearsEven() {
        evens(needing(), 0, 0, 0, 0);
        evens(needing(1), 1, 1, 1, 1);
        evens(needing(20), 20, 20, 20, 20);
        evens(needing(1, 20), 21, 20, 20, 20);
        evens(needing(20, 1), 21, 20, 20, 20);
        evens(needing(1, 1, 1), 3, 2, 1, 1);
        evens(needing(1, 1, 1, 1), 4, 2, 2, 1);
        evens(needing(1, 1, 1, 1, 1), 5, 3, 2, 2);
        evens(needing(3, 1, 4, 1, 5, 9, 2, 6), 31, 17, 14, 9);
        evens(needing(20, 20, 20, 20, 20, 20, 20, 20), 160, 80, 60, 40);
        evens(needing(1, 1, 1, 1, 1, 1, 1, 20), 27, 20, 20, 20);
        evens(needing(10, 1, 1, 10), 22, 11, 10, 10);
        evens(needing(6, 5, 5, 6), 22, 11, 10, 6);
    }

    private static void peelsKnown() {
        BridgePaint paint = ready("");
        paint.days(3);
        paint.job(0, 0, 0, 0, 0);
        paint.job(0, 0, 0, 0, 1);
        paint.days(2);
        paint.peel(1);
        int[] all = {0, 0, 0, 2, 2, 2, 2};
        int[] peeled = {0, 0, 0, 0, 0, 1, 1};
        int[] worst = {-1, -1, -1, -1, -1, 0, 0};
        for (int known = 0; known <= 6; known++) {
            Check.due("all as known on " + known, paint.peels(0, known, true), all[known]);
            Check.due("peeled as known on " + known, paint.peels(0, known, false), peeled[known]);
            Check.due("the other gang", paint.peels(1, known, true) + paint.peels(1, known, false), 0);
            Check.due("worst as known on " + known, paint.worst(known), worst[known]);
        }
        Check.due("on day 199", paint.peels(0, 199, false), 1);
    }

    /** WORST: "with the most in part (as fractions; of those that have some JOB; none, if none peeled), of several the least" */
    private static void worstParts() {
        for (int ones = 1; ones <= 5; ones++) {
            for (int others = 1; others <= 5; others++) {
                for (int peeledOnes = 0; peeledOnes <= ones; peeledOnes++) {
                    int peeledOthers = others / 2;
                    BridgePaint paint = ready("");
                    for (int job = 0; job < ones + others; job++) {
                        paint.job(0, 0, job < ones ? 0 : 1, 0, job);
                        if (job < ones ? job < peeledOnes : job - ones < peeledOthers) {
                            paint.peel(job);
                        }
                    }
                    int due = peeledOnes * others >= peeledOthers * ones ? 0 : 1;
                    Check.due(peeledOnes + "/" + ones + " and " + peeledOthers + "/" + others, paint.worst(0),
                            peeledOnes + peeledOthers == 0 ? -1 : due);
                }
            }
        }
        BridgePaint second = ready("");
        Check.due("no jobs", second.worst(0), -1);
        second.job(0, 0, 1, 0, 0);
        Check.due("a job, none peeled", second.worst(0), -1);
        second.peel(0);
        Check.due("the only one with a job", second.worst(0), 1);
    }

    /** RISK: "over all MOMENTS from its BEGIN to its END that are OPEN by its TERMS (as it is told now)" */
    private static void riskMoments() {
        BridgePaint paint = ready("stop if wet");
        Check.due("from 3 to 7 at height 9", paint.job(0, 1, 0, 0, 3), 0);
        for (int hour = 0; hour < 12; hour++) {
            BridgePaint one = ready("stop if wet");
            one.job(0, 1, 0, 0, 3);
            one.weather(0, 0, hour, hour, 9, 0);
            Check.due("wind at hour " + hour, one.risk(0), hour >= 3 && hour < 7 ? 81 : 0);
            one.weather(0, 0, hour, hour, -10, 0);
            Check.due("wet and wind at hour " + hour, one.risk(0), 0);
        }
        paint.weather(0, 0, 0, 11, 9, 0);
        Check.due("all four", paint.risk(0), 4 * 81);
        paint.weather(1, 199, 0, 11, 9, 0);
        Check.due("other days do not count", paint.risk(0), 4 * 81);
        paint.span(true, 0, 0);
        Check.due("a strike", paint.risk(0), 0);
        BridgePaint second = ready("stop if wind > 8", "stop if hour > 6", "stop if heat < 1");
        second.job(1, 1, 0, 0, 4);
        second.job(2, 1, 0, 0, 100);
        second.job(0, 1, 0, 0, 200);
        second.weather(0, 199, 0, 11, 9, 0);
        Check.due("by terms 1: at 4, 5, 6 and 12", second.risk(0), 4 * 81);
        Check.due("by terms 2: it is closed now", second.risk(1), 0);
        Check.due("by terms 0: it is closed now", second.risk(2), 0);
        second.weather(0, 199, 0, 11, 8, 1);
        Check.due("by terms 2: it is open now", second.risk(1), 4 * 72);
        Check.due("by terms 0: it is open now", second.risk(2), 4 * 72);
        BridgePaint last = ready("");
        last.weather(0, 199, 0, 11, 9, 0);
        Check.due("to the end of all", last.job(0, 1, 0, 0, 2396), 0);
        Check.due("all four to the end of all", last.risk(0), 4 * 81);
        Check.due("at height 0", last.job(0, 2, 0, 0, 0), 1);
        Check.due("no height", last.risk(1), 0);
        Check.due("at height 1", last.job(0, 0, 0, 0, 0), 2);
        Check.due("a moment at height 1", last.risk(2), 9);
    }

    /** MATCH: "whose COLOUR is nearest to a told one", "of several the least" */
    private static void matchNearest() {
        BridgePaint paint = new BridgePaint();
        int[] colours = {100, 0, 255, 104, 100};
        for (int colour : colours) {
            paint.batch(1, 0, colour);
        }
        int[][] due = {{0, 1}, {49, 1}, {50, 0}, {51, 0}, {99, 0}, {100, 0}, {101, 0}, {102, 0}, {103, 3}, {104, 3},
            {179, 3}, {180, 2}, {254, 2}, {255, 2}};
        for (int[] row : due) {
            Check.due("match(" + row[0] + ")", paint.match(row[0], 0), row[1]);
        }
    }

    /** "with TINS LEFT" */
    private static void matchTins() {
        BridgePaint paint = ready("");
        paint.batch(0, 0, 30);
        paint.batch(1, 0, 40);
        paint.batch(2, 0, 50);
        Check.due("no tin", paint.match(30, 0), 1);
        Check.due("one tin", paint.match(40, 0), 3);
        paint.job(0, 0, 0, 3, 0);
        Check.due("no tin left", paint.match(39, 0), 4);
        paint.job(0, 0, 0, 4, 1);
        Check.due("one of two left", paint.match(50, 0), 4);
        paint.job(0, 0, 0, 4, 2);
        Check.due("none of two left", paint.match(50, 0), 1);
    }

    /** "that did not FAIL (as known)" */
    private static void matchFailed() {
        for (int day : new int[] {0, 1, 199}) {
            BridgePaint paint = ready("");
            paint.days(day);
            Check.due("fail", paint.fail(0), true);
            if (day > 0) {
                Check.due("as known on the day ahead", paint.match(10, day - 1), 0);
            }
            Check.due("as known on the day", paint.match(10, day), 1);
            Check.due("as known on day 199", paint.match(10, 199), 1);
            Check.due("fail again", paint.fail(0), false);
            Check.due("fail, the other", paint.fail(1), true);
            Check.due("none", paint.match(10, day), -1);
            Check.due("a failed batch keeps its tins", paint.left(0), 99);
        }
    }

    /** FINDS: "how many from a DAY to another one"; THICK: "the BAY with the most in all, of several the least; none" */
    private static void bolts() {
        BridgePaint paint = ready();
        Check.due("none", paint.thick(), -1);
        Check.due("day 0", paint.bolt(2, 0), 1);
        Check.due("bay 2", paint.thick(), 2);
        Check.due("day 199", paint.bolt(1, 199), 2);
        Check.due("the least of two", paint.thick(), 1);
        Check.due("day 199 again", paint.bolt(2, 199), 3);
        Check.due("two at bay 2", paint.thick(), 2);
        Check.due("day 0 alone", paint.finds(2, 0, 0), 1);
        Check.due("day 199 alone", paint.finds(2, 199, 199), 1);
        Check.due("all days", paint.finds(2, 0, 199), 2);
        Check.due("but day 0", paint.finds(2, 1, 199), 1);
        Check.due("but day 199", paint.finds(2, 0, 198), 1);
        Check.due("but both", paint.finds(2, 1, 198), 0);
        Check.due("bay 0", paint.finds(0, 0, 199), 0);
    }

    /** "THE IMAGE (one) of all may be kept, and gone back to (but for the TAPE, fault() and THE IMAGE itself)." */
    private static void imageOne() {
        BridgePaint paint = ready("");
        Check.due("none is kept", paint.back(), false);
        paint.days(5);
        paint.image();
        paint.days(5);
        Check.due("back", paint.back(), true);
        Check.due("day 5", paint.count(7), 5);
        paint.days(1);
        paint.image();
        paint.days(1);
        paint.back();
        Check.due("the later one", paint.count(7), 6);
        paint.days(193);
        Check.argument("behind day 199", () -> paint.days(1));
        paint.back();
        Check.due("back from day 199", paint.days(193), 199);
        for (int times = 0; times < 5; times++) {
            paint.bay(0, 0, 1, 1);
            Check.due("back and back", paint.back(), true);
            Check.due("three bays", paint.count(0), 3);
        }
        Check.tape(paint, "pay 6");
        paint.image();
        paint.end(0);
        paint.feed(0x70617920, 0x37202020, 0x20202020, 0x20202020, 0x20202020);
        paint.back();
        Check.due("the tape is not kept", paint.terms(), 1);
        Check.due("pay 7", paint.at(1, 0, 0, 0, 2), 7);
    }

    /** Each thing that is told goes back: one change at a time. */
    private static void imageOfAll() {
        String[] changes = {"bay", "weather", "trains", "had", "strike", "nest", "terms", "gang", "batch", "job", "peel",
            "fail", "rust", "reading", "cost", "wear", "bolt", "days"};
        for (String change : changes) {
            BridgePaint paint = Whole.told();
            BridgePaint other = Whole.told();
            paint.image();
            other.image();
            change(paint, change);
            Check.due("back from " + change, paint.back(), true);
            paint.end(0);
            other.end(0);
            boolean isTerms = change.equals("terms");
            String changed = Whole.difference(Whole.of(paint).subList(isTerms ? 1 : 0, 12),
                    Whole.of(other).subList(isTerms ? 1 : 0, 12));
            Check.due("it is as it was behind " + change + ", not " + changed, changed == null, true);
            BridgePaint changing = Whole.told();
            change(changing, change);
            Check.due(change + " shows", Whole.difference(Whole.of(changing), Whole.of(Whole.told())) != null, true);
        }
    }

    private static void change(BridgePaint paint, String what) {
        switch (what) {
            case "bay": paint.bay(1, 2, 3, 4); break;
            case "weather": paint.weather(0, 9, 0, 11, -1, 0); break;
            case "trains": paint.trains(0x7ff); break;
            case "had": paint.span(false, 0, 9); break;
            case "strike": paint.span(true, 0, 9); break;
            case "nest": paint.nest(0, 0, 9); break;
            case "terms": Check.terms(paint, "dry 1"); break;
            case "gang": paint.gang(3); break;
            case "batch": paint.batch(1, 1, 1); break;
            case "job": Check.due("a job", paint.job(0, 2, 0, 1, 100), 3); break;
            case "peel": Check.due("it peels", paint.peel(1), true); break;
            case "fail": Check.due("it fails", paint.fail(1), true); break;
            case "rust": paint.rust(0, 5, 9); break;
            case "reading": paint.reading(2, 0, 40); break;
            case "cost": paint.cost(0, 0, 0); break;
            case "wear": paint.wear(1, 9, 9, 9); break;
            case "bolt": paint.bolt(0, 0); break;
            default: paint.days(1); break;
        }
    }

    /** What is told anew behind an image has nothing of what was told ahead of going back. */
    private static void imageNewRows() {
        BridgePaint paint = ready("");
        paint.image();
        for (int bay = 3; bay < 8; bay++) {
            paint.bay(1, 9, 20, 500);
            paint.cost(bay, 50, 60);
            paint.wear(bay, 900, 90, 9);
            paint.bolt(bay, 3);
        }
        paint.batch(1, 1, 1);
        paint.fail(2);
        paint.job(0, 1, 0, 0, 0);
        paint.peel(0);
        paint.nest(0, 0, 199);
        paint.back();
        for (int bay = 3; bay < 8; bay++) {
            Check.due("a bay", paint.bay(0, 0, 1, 3), bay);
            Check.due("no bolt of bay " + bay, paint.finds(bay, 0, 199), 0);
        }
        spends(paint, 500, 0, 0, 0, 0, 0, 0, 0, 0, 0);
        paint.wear(3, 7, 6, 5);
        spends(paint, 0, 5, 0, 0, 0, 2, 0, 0, 0, 0);
        Check.due("a batch", paint.batch(1, 1, 10), 2);
        Check.due("it did not fail", paint.fail(2), true);
        Check.due("a job", paint.job(0, 0, 0, 0, 0), 0);
        Check.due("it did not peel", paint.look(0, 6), -1);
        Check.due("no nest", paint.at(0, 0, 0, 0, 7), 0);
        Check.due("a nest", paint.nest(1, 5, 5), 0);
        Check.due("steel of a bay told anew", paint.steel(7, 0, 0, true), 3);
    }

    /** "NONE for another what." */
    private static void countOfNone() {
        BridgePaint paint = Whole.told();
        for (int what : new int[] {Integer.MIN_VALUE, -2, -1, 10, 11, 100, Integer.MAX_VALUE}) {
            Check.due("count(" + what + ")", paint.count(what), -1);
        }
    }
}
