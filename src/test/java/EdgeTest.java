/** Sentences of the document that name an edge, each with what is just within and just beyond it: the hours and works. */
final class EdgeTest {
    private EdgeTest() {
    }

    public static void main(String[] args) {
        today();
        weatherSpans();
        weatherWind();
        trainsAndHad();
        strikes();
        nests();
        lost();
        hoursOfSpans();
        worksRoundedUp();
        worksAtTheEnd();
        tinsRoundedUp();
        tinsJustEnough();
        dryToTheMoment();
        dryOfJobs();
        dryOfEachJob();
        dryOfTheLastMoment();
        inNoJob();
        beginsAtTheEnd();
        toldJobs();
        ordersBetween();
        ordersBegin();
        ordersOfNone();
        ordersFirst();
        ordersSix();
        puts();
        putsOfFour();
        putsAtTheEnd();
        Check.finish("EdgeTest");
    }

    /** Bays of the needs told, two gangs of skill 1 and 5, a batch of 99 tins, terms by the texts. */
    private static BridgePaint ready(int[] needs, String... texts) {
        BridgePaint paint = new BridgePaint();
        for (int bay = 0; bay < needs.length; bay++) {
            paint.bay(bay & 1, bay, needs[bay], 500);
        }
        paint.gang(1);
        paint.gang(5);
        paint.batch(99, 1, 1);
        for (String text : texts) {
            Check.terms(paint, text);
        }
        return paint;
    }

    private static int[] needs(int... needs) {
        return needs;
    }

    /** "TODAY is so many DAYS later: which it is. IllegalArgumentException: below 0, or behind DAY 199." */
    private static void today() {
        for (int day : new int[] {0, 1, 100, 198, 199}) {
            BridgePaint paint = new BridgePaint();
            Check.due("days(" + day + ")", paint.days(day), day);
            Check.argument("behind day 199", () -> paint.days(200 - day));
            Check.argument("far behind day 199", () -> paint.days(Integer.MAX_VALUE));
            Check.argument("below 0", () -> paint.days(-1));
            Check.argument("back to day 0", () -> paint.days(-day - 1));
            Check.argument("least", () -> paint.days(Integer.MIN_VALUE));
            Check.due("it is as it was", paint.days(0), day);
            Check.due("to day 199", paint.days(199 - day), 199);
            Check.argument("a day more", () -> paint.days(1));
            Check.due("day 199", paint.count(7), 199);
        }
    }

    /** "WEATHER: by DAYS from one to another one, HOURS from one to another one"; "of several the last one counts" */
    private static void weatherSpans() {
        int[][] spans = {{0, 0, 0, 0}, {199, 199, 11, 11}, {0, 199, 0, 11}, {5, 7, 3, 9}, {5, 5, 0, 11}, {0, 199, 4, 4}};
        for (int[] span : spans) {
            BridgePaint paint = ready(needs(1), "");
            paint.weather(span[0], span[1], span[2], span[3], -10, 30);
            for (int day : new int[] {0, 1, 4, 5, 6, 7, 8, 198, 199}) {
                for (int hour = 0; hour < 12; hour++) {
                    boolean in = day >= span[0] && day <= span[1] && hour >= span[2] && hour <= span[3];
                    String what = "day " + day + " hour " + hour;
                    Check.due("wet on " + what, paint.at(0, 0, day, hour, 5), in ? 1 : 0);
                    Check.due("wind on " + what, paint.at(0, 0, day, hour, 3), in ? 9 : 0);
                    Check.due("heat on " + what, paint.at(0, 0, day, hour, 4), in ? 30 : 10);
                }
            }
        }
        BridgePaint last = ready(needs(1), "");
        last.weather(0, 9, 0, 11, -1, 1);
        last.weather(3, 3, 3, 3, 5, 2);
        last.weather(0, 0, 0, 0, -6, 3);
        Check.due("the first", last.at(0, 0, 3, 4, 4), 1);
        Check.due("the second", last.at(0, 0, 3, 3, 4), 2);
        Check.due("the second is not wet", last.at(0, 0, 3, 3, 5), 0);
        Check.due("the third", last.at(0, 0, 0, 0, 4), 3);
        Check.due("the third is wet", last.at(0, 0, 0, 0, 5), 1);
    }

    /** "(wind below 0: WET, with the WIND - 1 - wind.)" */
    private static void weatherWind() {
        for (int wind = -10; wind <= 9; wind++) {
            BridgePaint paint = ready(needs(1), "");
            paint.weather(0, 0, 0, 0, wind, 0);
            Check.due("wet by " + wind, paint.at(0, 0, 0, 0, 5), wind < 0 ? 1 : 0);
            Check.due("wind by " + wind, paint.at(0, 0, 0, 0, 3), wind < 0 ? -1 - wind : wind);
            Check.due("heat by " + wind, paint.at(0, 0, 0, 0, 4), 0);
        }
    }

    /** "TRAINS go at HOURS (bits; none at first), but not on DAYS on which the line is HAD" */
    private static void trainsAndHad() {
        BridgePaint paint = ready(needs(1), "");
        paint.span(false, 0, 0);
        paint.span(false, 198, 199);
        for (int bit = 0; bit < 12; bit++) {
            paint.trains(1 << bit);
            for (int hour = 0; hour < 12; hour++) {
                Check.due("a train by bit " + bit + " at hour " + hour, paint.at(0, 0, 1, hour, 6), bit == hour ? 1 : 0);
            }
            Check.due("had on day 0", paint.at(0, 0, 0, bit, 6), 0);
            Check.due("a train on day 197", paint.at(0, 0, 197, bit, 6), 1);
            Check.due("had on day 198", paint.at(0, 0, 198, bit, 6), 0);
            Check.due("had on day 199", paint.at(0, 0, 199, bit, 6), 0);
        }
        paint.span(false, 0, 199);
        Check.due("had on all days", paint.at(0, 0, 100, 11, 6), 0);
    }

    private static void strikes() {
        BridgePaint paint = ready(needs(1), "stop if wet");
        paint.weather(0, 199, 0, 11, -1, 0);
        paint.span(true, 0, 0);
        paint.span(true, 199, 199);
        paint.span(true, 50, 52);
        for (int day : new int[] {0, 50, 51, 52, 199}) {
            Check.due("a strike at hour 0 of day " + day, paint.why(0, 0, day, 0), 1);
            Check.due("a strike at hour 11 of day " + day, paint.why(0, 0, day, 11), 1);
        }
        for (int day : new int[] {1, 49, 53, 198}) {
            Check.due("no strike at hour 0 of day " + day, paint.why(0, 0, day, 0), 2);
            Check.due("no strike at hour 11 of day " + day, paint.why(0, 0, day, 11), 2);
        }
    }

    private static void nests() {
        BridgePaint paint = ready(needs(1, 1), "stop if nest");
        paint.nest(1, 0, 0);
        paint.nest(1, 198, 199);
        paint.nest(0, 10, 10);
        int[][] due = {{0, 1}, {1, 0}, {10, 0}, {197, 0}, {198, 1}, {199, 1}};
        for (int[] row : due) {
            Check.due("a nest at bay 1 on day " + row[0], paint.at(0, 1, row[0], 0, 7), row[1]);
            Check.due("it stops there", paint.why(0, 1, row[0], 11), row[1] == 1 ? 2 : 0);
            Check.due("a nest at bay 0 on day " + row[0], paint.at(0, 0, row[0], 0, 7), row[0] == 10 ? 1 : 0);
        }
    }

    /** "LOST to trains: it is not OPEN, but would be, if no train went." */
    private static void lost() {
        String[] texts = {"stop if train", "stop if train and wet", "stop if not train", "stop if wet", "stop if train or wet",
            "stop if wet;stop if train"};
        int[] dry = {12, 0, 0, 0, 12, 12};
        int[] wet = {12, 12, 0, 0, 0, 0};
        for (int i = 0; i < texts.length; i++) {
            BridgePaint paint = ready(needs(1), texts[i] + ";pay 3;pay 5 if train and wet");
            paint.trains(4095);
            paint.weather(1, 1, 0, 11, -1, 0);
            paint.span(true, 2, 2);
            paint.span(false, 3, 3);
            Check.due("lost by " + texts[i], paint.hours(0, 0, 0, 0, 2), dry[i]);
            Check.due("paid by " + texts[i], paint.hours(0, 0, 0, 0, 3), 3 * dry[i]);
            Check.due("lost when wet by " + texts[i], paint.hours(0, 0, 1, 1, 2), wet[i]);
            Check.due("paid when wet by " + texts[i], paint.hours(0, 0, 1, 1, 3), 5 * wet[i]);
            Check.due("lost in a strike", paint.hours(0, 0, 2, 2, 2), 0);
            Check.due("paid in a strike", paint.hours(0, 0, 2, 2, 3), 0);
            Check.due("lost when had", paint.hours(0, 0, 3, 3, 2), 0);
            Check.due("open and not open are all", paint.hours(0, 0, 0, 4, 0) + paint.hours(0, 0, 0, 4, 1), 60);
        }
    }

    /** "From a DAY to another one": both are in it. */
    private static void hoursOfSpans() {
        BridgePaint paint = ready(needs(1), "stop if train;pay 99");
        paint.trains(1);
        int[][] spans = {{0, 0, 1}, {0, 1, 2}, {199, 199, 1}, {198, 199, 2}, {0, 199, 200}, {5, 9, 5}};
        for (int[] span : spans) {
            Check.due("open", paint.hours(0, 0, span[0], span[1], 0), 11 * span[2]);
            Check.due("not open", paint.hours(0, 0, span[0], span[1], 1), span[2]);
            Check.due("lost", paint.hours(0, 0, span[0], span[1], 2), span[2]);
            Check.due("paid", paint.hours(0, 0, span[0], span[1], 3), 99 * span[2]);
        }
        paint.trains(4095);
        Check.due("the most pay of all", paint.hours(0, 0, 0, 199, 3), 2400 * 99);
    }

    /** "the NEED by SKILL, rounded up, so many OPEN MOMENTS from there on" */
    private static void worksRoundedUp() {
        int[][] due = {
            {1, 2, 3, 4, 5, 6, 7, 8, 9, 10, 11, 12, 13, 14, 15, 16, 17, 18, 19, 20},
            {1, 1, 2, 2, 3, 3, 4, 4, 5, 5, 6, 6, 7, 7, 8, 8, 9, 9, 10, 10},
            {1, 1, 1, 2, 2, 2, 3, 3, 3, 4, 4, 4, 5, 5, 5, 6, 6, 6, 7, 7},
            {1, 1, 1, 1, 2, 2, 2, 2, 3, 3, 3, 3, 4, 4, 4, 4, 5, 5, 5, 5},
            {1, 1, 1, 1, 1, 2, 2, 2, 2, 2, 3, 3, 3, 3, 3, 4, 4, 4, 4, 4}
        };
        for (int skill = 1; skill <= 5; skill++) {
            for (int need = 1; need <= 20; need++) {
                BridgePaint paint = new BridgePaint();
                paint.bay(0, 0, need, 0);
                paint.gang(skill);
                Check.terms(paint, "");
                int hours = due[skill - 1][need - 1];
                Check.due(need + " by " + skill, paint.ends(0, 0, 0, 7), 7 + hours);
                Check.due(need + " by " + skill + " at the end of all", paint.ends(0, 0, 0, 2400 - hours), 2400);
                Check.due(need + " by " + skill + ", too late", paint.ends(0, 0, 0, Math.min(2399, 2401 - hours)),
                        hours == 1 ? 2400 : -1);
            }
        }
    }

    /** "its END is the MOMENT behind the last one of these; none, if DAY 199 is over ahead of that" */
    private static void worksAtTheEnd() {
        BridgePaint paint = ready(needs(2), "stop if hour > 0", "stop if day < 99 + 99 + 1", "stop if 0 < 1");
        Check.due("two days", paint.ends(0, 0, 0, 0), 13);
        Check.due("the last two days", paint.ends(0, 0, 0, 2376), 2389);
        Check.due("not from hour 1 on", paint.ends(0, 0, 0, 2377), -1);
        Check.due("the last day alone", paint.ends(1, 0, 0, 0), 2390);
        Check.due("its last two", paint.ends(1, 0, 0, 2398), 2400);
        Check.due("its last one", paint.ends(1, 0, 0, 2399), -1);
        Check.due("its last one is enough", paint.ends(1, 0, 1, 2399), 2400);
        Check.due("never open", paint.ends(2, 0, 1, 0), -1);
        paint.span(true, 199, 199);
        Check.due("a strike on the last day", paint.ends(1, 0, 1, 0), -1);
    }

    /** "it uses as many TINS as the NEED by 4, rounded up" */
    private static void tinsRoundedUp() {
        int[] due = {1, 1, 1, 1, 2, 2, 2, 2, 3, 3, 3, 3, 4, 4, 4, 4, 5, 5, 5, 5};
        for (int need = 1; need <= 20; need++) {
            BridgePaint paint = ready(needs(need), "");
            Check.due("a job", paint.job(0, 0, 1, 0, 0), 0);
            Check.due("tins for " + need, 99 - paint.left(0), due[need - 1]);
            Check.due("lead for " + need, paint.caught(0, 0, 0), due[need - 1]);
        }
    }

    private static void tinsJustEnough() {
        for (int tins = 0; tins <= 6; tins++) {
            BridgePaint paint = ready(needs(20, 1), "");
            Check.due("a batch", paint.batch(tins, 0, 0), 1);
            Check.due("five of " + tins, paint.job(0, 0, 0, 1, 0), tins >= 5 ? 0 : -1);
            Check.due("left of " + tins, paint.left(1), tins >= 5 ? tins - 5 : tins);
            boolean isEnough = tins != 0 && tins != 5;
            Check.due("one more of " + tins, paint.job(0, 1, 0, 1, 0) >= 0, isEnough);
        }
        BridgePaint most = ready(needs(20), "");
        for (int job = 0; job < 19; job++) {
            Check.due("five of 99", most.job(0, 0, 1, 0, 4 * job), job);
        }
        Check.due("four are left", most.left(0), 4);
        Check.due("five of four", most.job(0, 0, 1, 0, 400), -1);
    }

    /** "if that MOMENT is not ahead of the END of another JOB at the BAY and the DRY at the last MOMENT of that" */
    private static void dryToTheMoment() {
        for (int dry : new int[] {0, 1, 2, 12, 47, 48}) {
            BridgePaint paint = ready(needs(1, 3), "dry " + dry);
            Check.due("a job from 100 to 103", paint.job(0, 1, 0, 0, 100), 0);
            Check.due("ahead of it", paint.may(1, 99), true);
            Check.due("its begin", paint.may(1, 100), false);
            Check.due("its last moment", paint.may(1, 102), false);
            Check.due("its end with dry " + dry, paint.may(1, 103), dry == 0);
            Check.due("the last one that is not dry", paint.may(1, 103 + dry - 1), false);
            Check.due("the first one that is dry", paint.may(1, 103 + dry), true);
            Check.due("the one behind that", paint.may(1, 104 + dry), true);
            Check.due("another bay", paint.may(0, 101), true);
            Check.due("a job too early", paint.job(0, 1, 0, 0, 103 + dry - 1), -1);
            Check.due("a job in time", paint.job(0, 1, 0, 0, 103 + dry), 1);
        }
    }

    /** Whether a job may begin is asked anew by each call, at each bay. */
    private static void dryOfJobs() {
        for (int bay = 0; bay < 3; bay++) {
            BridgePaint paint = ready(needs(2, 2, 2), "dry 3", "dry 1");
            Check.due("from 0 to 2, dry at 5", paint.job(0, bay, 0, 0, 0), 0);
            Check.due("not dry", paint.job(1, bay, 0, 0, 4), -1);
            Check.due("another bay", paint.job(1, (bay + 1) % 3, 0, 0, 4), 1);
            Check.due("dry", paint.job(1, bay, 0, 0, 5), 2);
            Check.due("not dry behind the second one", paint.job(0, bay, 0, 0, 7), -1);
            Check.due("dry behind the second one", paint.job(0, bay, 0, 0, 8), 3);
            BridgePaint order = ready(needs(2, 2, 2), "dry 3");
            order.job(0, bay, 0, 0, 0);
            Check.due("an order waits for it", order.order(0, 0, 1 << bay, 0, 1), 7);
            BridgePaint put = ready(needs(2, 2, 2), "dry 3");
            put.job(0, bay, 0, 0, 0);
            Check.due("a put waits for it", put.put(0, 1 << bay, 0, -1), 6);
        }
    }

    /** "for each JOB there that ends at or ahead of it": the latest one may be dry ahead of an earlier one. */
    private static void dryOfEachJob() {
        BridgePaint paint = ready(needs(1, 4), "", "dry 48");
        Check.due("from 20 to 24, dry at once", paint.job(0, 1, 0, 0, 20), 0);
        Check.due("at 24", paint.may(1, 24), true);
        Check.due("from 0 to 4, dry at 52", paint.job(1, 1, 0, 0, 0), 1);
        Check.due("at 4", paint.may(1, 4), false);
        Check.due("at 24, behind both", paint.may(1, 24), false);
        Check.due("at 51", paint.may(1, 51), false);
        Check.due("at 52", paint.may(1, 52), true);
        Check.due("another bay", paint.may(0, 4), true);
        Check.due("a job too early", paint.job(0, 1, 0, 0, 51), -1);
        Check.due("a job in time", paint.job(0, 1, 0, 0, 52), 2);
    }

    /** "the DRY at the last MOMENT of that", by its TERMS, at its BAY, with WEATHER, trains, NESTS as they are told now */
    private static void dryOfTheLastMoment() {
        String[] conditions = {"wet", "train", "nest", "wind > 3", "heat > 20", "day > 0", "hour > 0", "height > 0", "side > 0"};
        for (String condition : conditions) {
            BridgePaint paint = ready(needs(1, 4), "dry 5 if " + condition);
            paint.job(0, 1, 1, 0, 10);
            paint.job(0, 0, 1, 0, 10);
            boolean isAlways = condition.startsWith("h") && !condition.startsWith("heat") || condition.startsWith("side");
            boolean isAtBay0 = condition.startsWith("hour");
            Check.due("at 11, ahead of the telling: " + condition, paint.may(1, 11), !isAlways);
            paint.weather(0, 0, 10, 10, -5, 21);
            paint.trains(1 << 10);
            paint.nest(1, 0, 0);
            boolean holds = !condition.startsWith("day");
            Check.due("at 11: " + condition, paint.may(1, 11), !holds);
            Check.due("at 15: " + condition, paint.may(1, 15), !holds);
            Check.due("at 16: " + condition, paint.may(1, 16), true);
            boolean isTold = condition.startsWith("wet") || condition.startsWith("train") || condition.startsWith("wind")
                    || condition.startsWith("heat");
            Check.due("bay 0 at 11: " + condition, paint.may(0, 11), !(isAtBay0 || isTold));
        }
        BridgePaint strike = ready(needs(1), "dry 5");
        strike.job(0, 0, 0, 0, 0);
        strike.span(true, 0, 199);
        Check.due("a strike does not dry it", strike.may(0, 5), false);
        Check.due("nor keep it wet", strike.may(0, 6), true);
    }

    /** "and it lies in none of them (from BEGIN on, ahead of END)" */
    private static void inNoJob() {
        BridgePaint paint = ready(needs(4), "dry 9", "stop if hour < 10");
        Check.due("from 10 on, at 10, 11, 22 and 23, to 24", paint.job(1, 0, 0, 0, 10), 0);
        Check.due("its end", paint.look(0, 4), 24);
        for (int moment = 0; moment < 24; moment++) {
            Check.due("at " + moment, paint.may(0, moment), moment < 10);
        }
        Check.due("at its end", paint.may(0, 24), true);
        Check.due("from 9 on, into it", paint.job(0, 0, 0, 0, 9), 1);
        Check.due("at 9", paint.may(0, 9), false);
        Check.due("at 8", paint.may(0, 8), true);
        Check.due("dry behind the second one at 22, and not in the first", paint.may(0, 23), false);
        Check.due("dry behind both", paint.may(0, 24), true);
    }

    private static void beginsAtTheEnd() {
        BridgePaint paint = ready(needs(2, 1), "dry 48");
        Check.due("from 2398 to 2400", paint.job(0, 0, 0, 0, 2398), 0);
        Check.due("its last moment", paint.may(0, 2399), false);
        Check.due("ahead of it", paint.may(0, 2397), true);
        Check.due("no order behind it", paint.order(0, 0, 1, 2398, 0), -1);
        Check.due("no put behind it", paint.put(0, 1, 2398, -1), -1);
        Check.due("from 2349 to 2350, dry at 2398", paint.job(0, 1, 0, 0, 2349), 1);
        Check.due("not dry", paint.may(1, 2397), false);
        Check.due("dry", paint.may(1, 2398), true);
        Check.due("an order when it is dry", paint.order(0, 0, 2, 2349, 0), 2399);
        Check.due("from 2351 on it would be dry behind all", paint.job(0, 1, 0, 0, 2398), 2);
        Check.due("no order behind the last", paint.order(0, 0, 2, 2399, 0), -1);
    }

    /** "what is told is known from TODAY on" */
    private static void toldJobs() {
        for (int day : new int[] {0, 1, 199}) {
            BridgePaint paint = ready(needs(1), "");
            paint.days(day);
            paint.job(0, 0, 0, 0, 5);
            paint.reading(0, 0, 100);
            Check.due("told", paint.look(0, 5), day);
            knownFrom(paint, day, true);
            if (day > 0) {
                knownFrom(paint, day - 1, false);
                knownFrom(paint, 0, false);
            }
            knownFrom(paint, 199, true);
        }
    }

    private static void knownFrom(BridgePaint paint, int known, boolean is) {
        String at = " as known on " + known;
        Check.due("last" + at, paint.last(0, 0, known), is ? 0 : -1);
        Check.due("recall" + at, paint.recall(0, known, false), is ? 1 : 0);
        Check.due("caught" + at, paint.caught(0, 0, known), is ? 1 : 0);
        Check.due("bare" + at, paint.bare(0, 0, 199, known), is ? 169 : 200);
        Check.due("peels" + at, paint.peels(0, known, true), is ? 1 : 0);
        Check.due("steel" + at, paint.steel(0, 0, known, true), is ? 102 : 500);
        Check.due("below" + at, paint.below(0, 100, known), is ? 0 : -1);
    }

    /** "behind the END of the one before and as many MOMENTS as BAYS lie between (3 from BAY 2 to BAY 5)" */
    private static void ordersBetween() {
        BridgePaint paint = ready(needs(1, 1, 1, 1, 1, 1, 1, 1), "");
        for (int one = 0; one < 8; one++) {
            for (int other = one + 1; other < 8; other++) {
                int set = 1 << one | 1 << other;
                Check.due("best of " + one + " and " + other, paint.order(0, 0, set, 5, 0), 5 + 1 + other - one + 1);
                Check.due("walked", paint.order(0, 0, set, 5, 1), 5 + 1 + other - one + 1);
                Check.due("first, of several the least", paint.order(0, 0, set, 5, 2), one);
                int last = 2400 - (other - one) - 2;
                Check.due("in time", paint.order(0, 0, set, last, 0), 2400);
                Check.due("too late", paint.order(0, 0, set, last + 1, 0), -1);
                Check.due("too late to be walked", paint.order(0, 0, set, last + 1, 1), -1);
                Check.due("too late for a first", paint.order(0, 0, set, last + 1, 2), -1);
            }
            Check.due("alone", paint.order(0, 0, 1 << one, 2399, 0), 2400);
            Check.due("alone it is the first", paint.order(0, 0, 1 << one, 2399, 2), one);
        }
    }

    /** "each from the first MOMENT on at which it may BEGIN by the JOBS there are" */
    private static void ordersBegin() {
        BridgePaint paint = ready(needs(2, 2), "", "dry 5");
        Check.due("bay 1 from 4 to 6, dry at 11", paint.job(1, 1, 0, 0, 4), 0);
        Check.due("bay 1 from 0 on", paint.order(0, 0, 2, 0, 0), 2);
        Check.due("bay 1 from 3 on, into the job", paint.order(0, 0, 2, 3, 0), 5);
        Check.due("bay 1 from 4 on", paint.order(0, 0, 2, 4, 0), 13);
        Check.due("bay 1 from 10 on", paint.order(0, 0, 2, 10, 0), 13);
        Check.due("bay 1 from 11 on", paint.order(0, 0, 2, 11, 0), 13);
        Check.due("bay 1 from 12 on", paint.order(0, 0, 2, 12, 0), 14);
        Check.due("walked from 0 on: bay 1 from 3 on", paint.order(0, 0, 3, 0, 1), 5);
        Check.due("walked from 1 on: bay 1 from 11 on", paint.order(0, 0, 3, 1, 1), 13);
        Check.due("best from 1 on: bay 1 first", paint.order(0, 0, 3, 1, 0), 6);
        Check.due("first from 1 on", paint.order(0, 0, 3, 1, 2), 1);
        Check.due("best from 4 on: bay 0 first", paint.order(0, 0, 3, 4, 0), 13);
        Check.due("first from 4 on", paint.order(0, 0, 3, 4, 2), 0);
        Check.due("no work of an order is a job", paint.count(4), 1);
    }

    /** "none, if it cannot be": one bay that has no end is enough, wherever it stands. */
    private static void ordersOfNone() {
        for (int closed = 0; closed < 4; closed++) {
            BridgePaint paint = new BridgePaint();
            for (int bay = 0; bay < 4; bay++) {
                paint.bay(0, bay == closed ? 9 : bay, 2, 0);
            }
            paint.gang(1);
            Check.terms(paint, "stop if height > 8");
            for (int set = 1; set < 16; set++) {
                boolean isNone = (set >> closed & 1) == 1;
                for (int what = 0; what < 3; what++) {
                    int answer = paint.order(0, 0, set, 0, what);
                    Check.due("order of " + set + " without " + closed + ", what " + what + ": " + answer,
                            answer == -1, isNone);
                }
                if (Integer.bitCount(set) == 1) {
                    Check.due("put to " + set, paint.put(0, set, 0, -1), isNone ? -1 : 2);
                }
            }
        }
    }

    /** "FIRST: the first BAY of a BEST order, of several the least." */
    private static void ordersFirst() {
        // Bay 1 lies between: 1 first makes the way longer, 0 and 2 first make it the same.
        BridgePaint paint = ready(needs(1, 1, 1), "", "stop if side < 1 and height > 1 and hour < 6", "stop if height < 1 and hour < 6");
        Check.due("0 and 2 first are the same", paint.order(0, 0, 7, 0, 2), 0);
        Check.due("1 and 2", paint.order(0, 0, 6, 0, 2), 1);
        Check.due("bay 2 is closed to hour 6: 0 first", paint.order(1, 0, 7, 0, 2), 0);
        Check.due("its end", paint.order(1, 0, 7, 0, 0), 7);
        Check.due("bay 0 is closed to hour 6: 1 first is as good as 2 first", paint.order(2, 0, 7, 0, 2), 1);
        Check.due("its end", paint.order(2, 0, 7, 0, 0), 7);
        Check.due("walked, bay 0 waits", paint.order(2, 0, 7, 0, 1), 7 + 2 + 2);
    }

    /** "NO MORE than 6 BAYS." */
    private static void ordersSix() {
        BridgePaint paint = ready(needs(1, 1, 1, 1, 1, 1, 1, 1), "", "stop if height < 1 and day < 1");
        for (int set = 1; set < 256; set++) {
            int bays = Integer.bitCount(set);
            int chosen = set;
            if (bays > 6) {
                Check.argument("order of " + set, () -> paint.order(0, 0, chosen, 0, 0));
            } else if (bays == 6) {
                int way = 31 - Integer.numberOfLeadingZeros(set) - Integer.numberOfTrailingZeros(set);
                Check.due("best of " + set, paint.order(0, 0, set, 0, 0), 6 + way);
                Check.due("walked of " + set, paint.order(0, 0, set, 0, 1), 6 + way);
            }
        }
        Check.due("3, 4, 5, 2, 1, and 0 from hour 12 on", paint.order(1, 0, 0x3f, 0, 0), 13);
        Check.due("from 2 or 1 on it is later", paint.order(1, 0, 0x3f, 0, 2), 3);
        Check.due("walked: all behind bay 0", paint.order(1, 0, 0x3f, 0, 1), 13 + 10);
    }

    /** "each BAY one GANG, each GANG one BAY at most"; "of several the least GANG for the first BAY, .." */
    private static void puts() {
        BridgePaint paint = ready(needs(5, 10, 5), "");
        Check.due("bay 0 by the better one", paint.put(0, 1, 0, -1), 1);
        Check.due("its gang", paint.put(0, 1, 0, 0), 1);
        Check.due("bay 1 saves more", paint.put(0, 3, 0, -1), 5 + 2);
        Check.due("bay 0 by gang 0", paint.put(0, 3, 0, 0), 0);
        Check.due("bay 1 by gang 1", paint.put(0, 3, 0, 1), 1);
        Check.due("bays 0 and 2 are the same: gang 0 at bay 0", paint.put(0, 5, 0, 0), 0);
        Check.due("gang 1 at bay 2", paint.put(0, 5, 0, 2), 1);
        Check.due("bay 1 is not of the set", paint.put(0, 5, 0, 1), -1);
        Check.due("three bays, two gangs", paint.put(0, 7, 0, -1), -1);
        Check.due("three bays, two gangs: bay 0", paint.put(0, 7, 0, 0), -1);
        Check.due("no bays", paint.put(0, 0, 0, -1), 0);
        Check.due("no bays: bay 0", paint.put(0, 0, 0, 0), -1);
        paint.gang(5);
        Check.due("three bays, three gangs", paint.put(0, 7, 0, -1), 5 + 2 + 1);
        Check.due("bay 0, the least gang", paint.put(0, 7, 0, 0), 0);
        Check.due("bay 1, the least gang", paint.put(0, 7, 0, 1), 1);
        Check.due("bay 2", paint.put(0, 7, 0, 2), 2);
        Check.due("no gang is put for good", paint.put(0, 7, 0, -1), 8);
    }

    /** The best gang for the bay that needs most, wherever both stand, among three and four. */
    private static void putsOfFour() {
        for (int bays = 1; bays <= 4; bays++) {
            for (int great = 0; great < bays; great++) {
                for (int best = 0; best < 4; best++) {
                    BridgePaint paint = new BridgePaint();
                    Check.terms(paint, "");
                    for (int i = 0; i < 4; i++) {
                        paint.bay(0, 0, i == great ? 20 : 1, 0);
                        paint.gang(i == best ? 5 : 1);
                    }
                    int set = (1 << bays) - 1;
                    Check.due("all ends together", paint.put(0, set, 10, -1), 14 + 11 * (bays - 1));
                    int gang = 0;
                    for (int bay = 0; bay < bays; bay++) {
                        gang += bay != great && gang == best ? 1 : 0;
                        Check.due("bay " + bay, paint.put(0, set, 10, bay), bay == great ? best : gang);
                        gang += bay == great ? 0 : 1;
                    }
                }
            }
        }
    }

    private static void putsAtTheEnd() {
        BridgePaint paint = ready(needs(5, 5), "");
        Check.due("gang 0 in time", paint.put(0, 3, 2395, -1), 2400 + 2396);
        Check.due("gang 0 too late", paint.put(0, 3, 2396, -1), -1);
        Check.due("gang 0 too late: bay 0", paint.put(0, 3, 2396, 0), -1);
        Check.due("one bay by gang 1", paint.put(0, 1, 2399, -1), 2400);
        Check.due("its gang", paint.put(0, 1, 2399, 0), 1);
        paint.gang(5);
        Check.due("gangs 1 and 2", paint.put(0, 3, 2399, -1), 4800);
        Check.due("gang 1 at bay 0", paint.put(0, 3, 2399, 0), 1);
        Check.due("gang 2 at bay 1", paint.put(0, 3, 2399, 1), 2);
    }
}
