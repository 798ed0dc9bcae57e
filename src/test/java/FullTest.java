import java.util.List;
import java.util.function.Consumer;
import java.util.function.Function;

/** The empty and the full: no bay and eight, no job and forty, all else at its limit, and what is refused there. */
final class FullTest {
    private FullTest() {
    }

    public static void main(String[] args) {
        noBay();
        noTerms();
        noGangOrBatch();
        noJob();
        eightBays();
        eightBaysOfJobs();
        fortyJobs();
        fortyJobsPast();
        fortyJobsImage();
        fullWeather();
        fullSpans();
        fullNests();
        fullReadings();
        fullBolts();
        fullTexts();
        fullRefused();
        textsRefused();
        nothingHappens();
        Check.finish("FullTest");
    }

    private static void noBay() {
        BridgePaint paint = new BridgePaint();
        Check.terms(paint, "");
        paint.gang(1);
        paint.batch(9, 9, 9);
        Check.index("nest", () -> paint.nest(0, 0, 0));
        Check.index("why", () -> paint.why(0, 0, 0, 0));
        Check.index("at", () -> paint.at(0, 0, 0, 0, 0));
        Check.index("hours", () -> paint.hours(0, 0, 0, 0, 0));
        Check.index("ends", () -> paint.ends(0, 0, 0, 0));
        Check.index("may", () -> paint.may(0, 0));
        Check.index("job", () -> paint.job(0, 0, 0, 0, 0));
        Check.index("last", () -> paint.last(0, 0, 0));
        Check.index("bare", () -> paint.bare(0, 0, 0, 0));
        Check.index("reading", () -> paint.reading(0, 0, 0));
        Check.index("steel", () -> paint.steel(0, 0, 0, false));
        Check.index("below", () -> paint.below(0, 1, 0));
        Check.index("cost", () -> paint.cost(0, 0, 0));
        Check.index("wear", () -> paint.wear(0, 0, 0, 0));
        Check.index("spent of a bay", () -> paint.spent(0, 0));
        Check.index("put of a bay", () -> paint.put(0, 0, 0, 0));
        Check.index("bolt", () -> paint.bolt(0, 0));
        Check.index("finds", () -> paint.finds(0, 0, 0));
        Check.argument("order of none", () -> paint.order(0, 0, 0, 0, 0));
        Check.argument("order of bay 0", () -> paint.order(0, 0, 1, 0, 0));
        Check.argument("put of bay 0", () -> paint.put(0, 1, 0, -1));
        Check.due("put of none", paint.put(0, 0, 2399, -1), 0);
        Check.due("spent", paint.spent(500, -1), 0);
        Check.due("spent without coin", paint.spent(0, -1), 0);
        Check.due("recall", paint.recall(0, 0, false), 0);
        Check.due("covered", paint.recall(0, 0, true), 0);
        Check.due("thick", paint.thick(), -1);
        for (int years = 1; years <= 4; years++) {
            Check.due("even(" + years + ")", paint.even(years), 0);
        }
        Check.due("bays", paint.count(0), 0);
    }

    private static void noTerms() {
        BridgePaint paint = new BridgePaint();
        paint.bay(0, 0, 1, 0);
        paint.gang(1);
        paint.batch(9, 9, 9);
        Check.index("why", () -> paint.why(0, 0, 0, 0));
        Check.index("at", () -> paint.at(0, 0, 0, 0, 0));
        Check.index("hours", () -> paint.hours(0, 0, 0, 0, 0));
        Check.index("ends", () -> paint.ends(0, 0, 0, 0));
        Check.index("job", () -> paint.job(0, 0, 0, 0, 0));
        Check.index("order", () -> paint.order(0, 0, 1, 0, 0));
        Check.index("put", () -> paint.put(0, 0, 0, -1));
        Check.due("may needs none", paint.may(0, 0), true);
        Check.due("terms", paint.count(1), 0);
    }

    private static void noGangOrBatch() {
        BridgePaint paint = new BridgePaint();
        paint.bay(0, 0, 1, 0);
        Check.terms(paint, "");
        Check.index("ends without gangs", () -> paint.ends(0, 0, 0, 0));
        Check.index("order without gangs", () -> paint.order(0, 0, 1, 0, 0));
        Check.index("peels without gangs", () -> paint.peels(0, 0, false));
        Check.due("put without gangs", paint.put(0, 1, 0, -1), -1);
        Check.due("put of none without gangs", paint.put(0, 0, 0, -1), 0);
        Check.due("worst without gangs", paint.worst(0), -1);
        paint.gang(1);
        Check.index("job without batches", () -> paint.job(0, 0, 0, 0, 0));
        Check.index("fail without batches", () -> paint.fail(0));
        Check.index("left without batches", () -> paint.left(0));
        Check.index("recall without batches", () -> paint.recall(0, 0, false));
        Check.due("match without batches", paint.match(0, 0), -1);
        paint.batch(0, 50, 0);
        Check.due("a batch without tins", paint.left(0), 0);
        Check.due("no job with it", paint.job(0, 0, 0, 0, 0), -1);
        Check.due("match without tins", paint.match(0, 0), -1);
    }

    private static void noJob() {
        BridgePaint paint = Whole.told();
        BridgePaint none = new BridgePaint();
        none.bay(0, 9, 1, 500);
        none.gang(1);
        none.batch(9, 9, 9);
        Check.index("look", () -> none.look(0, 0));
        Check.index("peel", () -> none.peel(0));
        Check.index("risk", () -> none.risk(0));
        Check.index("look behind the last one", () -> paint.look(Whole.JOBS, 0));
        Check.due("last", none.last(0, 199, 199), -1);
        Check.due("recall", none.recall(0, 199, false), 0);
        Check.due("covered", none.recall(0, 199, true), 0);
        Check.due("left", none.left(0), 9);
        Check.due("caught", none.caught(0, 199, 199), 0);
        Check.due("bare", none.bare(0, 0, 199, 199), 200);
        Check.due("peels", none.peels(0, 199, false), 0);
        Check.due("of how many", none.peels(0, 199, true), 0);
        Check.due("worst", none.worst(199), -1);
        Check.due("may", none.may(0, 0), true);
        Check.due("may at the last moment", none.may(0, 2399), true);
        Check.due("jobs", none.count(4), 0);
    }

    private static BridgePaint eight() {
        BridgePaint paint = new BridgePaint();
        for (int bay = 0; bay < 8; bay++) {
            paint.bay(bay & 1, bay, 2, 100 + bay);
        }
        for (int gang = 0; gang < 4; gang++) {
            paint.gang(1);
        }
        Check.terms(paint, "dry 1");
        return paint;
    }

    private static void eightBays() {
        BridgePaint paint = eight();
        Check.full("a ninth", () -> paint.bay(0, 0, 1, 0));
        Check.due("steel of bay 7", paint.steel(7, 0, 0, true), 107);
        Check.index("steel of bay 8", () -> paint.steel(8, 0, 0, true));
        Check.due("even(1)", paint.even(1), 16);
        Check.due("even(2)", paint.even(2), 8);
        Check.due("even(3): 6, 6 and 4", paint.even(3), 6);
        Check.due("even(4)", paint.even(4), 4);
        Check.due("order of bays 2 to 7", paint.order(0, 0, 0xfc, 0, 0), 12 + 5);
        Check.due("order of bay 7", paint.order(0, 0, 0x80, 2398, 0), 2400);
        Check.argument("order of seven", () -> paint.order(0, 0, 0xfe, 0, 0));
        Check.argument("order of eight", () -> paint.order(0, 0, 0xff, 0, 0));
        Check.argument("order of bay 8", () -> paint.order(0, 0, 0x100, 0, 0));
        Check.due("put to bays 4 to 7", paint.put(0, 0xf0, 0, -1), 8);
        Check.due("put: bay 7", paint.put(0, 0xf0, 0, 7), 3);
        Check.due("put: bay 0 is not of the set", paint.put(0, 0xf0, 0, 0), -1);
        Check.due("put to five bays", paint.put(0, 0x1f, 0, -1), -1);
        Check.due("put to eight bays", paint.put(0, 0xff, 0, -1), -1);
        Check.due("put to eight bays: bay 7", paint.put(0, 0xff, 0, 7), -1);
        Check.argument("put to bay 8", () -> paint.put(0, 0x100, 0, -1));
        Check.index("put: bay 8", () -> paint.put(0, 0xff, 0, 8));
        for (int bay = 0; bay < 8; bay++) {
            paint.cost(bay, 1, 2);
            paint.wear(bay, 900, 800 + bay, 10);
        }
        Check.due("spent 16", paint.spent(16, -1), 80);
        Check.due("spent 15", paint.spent(15, -1), 70 + 800);
        Check.due("spent 15: coats of bay 0", paint.spent(15, 0), 1);
        Check.due("spent 15: coats of bay 7", paint.spent(15, 7), 2);
        Check.index("spent: bay 8", () -> paint.spent(15, 8));
        paint.bolt(7, 0);
        Check.due("thick", paint.thick(), 7);
    }

    private static void eightBaysOfJobs() {
        BridgePaint paint = eight();
        paint.batch(8, 50, 0);
        paint.batch(99, 0, 0);
        for (int bay = 0; bay < 8; bay++) {
            Check.due("job " + bay, paint.job(0, bay, 0, 0, 10), bay);
        }
        Check.due("all tins are used", paint.left(0), 0);
        Check.due("no more jobs with it", paint.job(0, 0, 0, 0, 100), -1);
        Check.due("recall", paint.recall(0, 0, false), 255);
        Check.due("none is covered", paint.recall(0, 0, true), 0);
        Check.due("caught", paint.caught(0, 0, 0), 400);
        for (int bay = 0; bay < 8; bay++) {
            Check.due("not dry at bay " + bay, paint.may(bay, 12), false);
            Check.due("dry at bay " + bay, paint.may(bay, 13), true);
            Check.due("no job on it as it is not dry", paint.job(0, bay, 0, 1, 12), -1);
            Check.due("a job on it", paint.job(0, bay, 0, 1, 13), 8 + bay);
            Check.due("last at bay " + bay, paint.last(bay, 1, 0), 8 + bay);
        }
        Check.due("all are covered", paint.recall(0, 0, true), 255);
        Check.due("none of the others", paint.recall(1, 0, true), 0);
        Check.due("order steps behind the jobs", paint.order(0, 0, 0x80, 10, 0), 18);
        Check.due("order at bays 6 and 7", paint.order(0, 0, 0xc0, 10, 1), 16 + 2 + 1 + 2);
        Check.due("put steps behind the jobs", paint.put(0, 0xf0, 10, -1), 4 * 18);
    }

    /** 40 jobs of an hour each at bay 0, one behind another from moment 0 on. */
    private static BridgePaint forty() {
        BridgePaint paint = new BridgePaint();
        paint.bay(0, 5, 1, 300);
        paint.bay(0, 5, 1, 300);
        paint.gang(1);
        paint.gang(1);
        paint.batch(40, 2, 9);
        paint.batch(1, 50, 9);
        Check.terms(paint, "");
        for (int job = 0; job < 40; job++) {
            Check.due("job " + job, paint.job(0, 0, job == 39 ? 1 : 0, 0, job), job);
        }
        return paint;
    }

    private static void fortyJobs() {
        BridgePaint paint = forty();
        Check.due("40 jobs", paint.count(4), 40);
        Check.full("a 41st at another bay", () -> paint.job(0, 1, 0, 1, 0));
        Check.full("a 41st that may not begin", () -> paint.job(0, 0, 0, 1, 0));
        Check.full("a 41st without tins", () -> paint.job(0, 0, 0, 0, 100));
        Check.index("a 41st of a batch that is none", () -> paint.job(0, 0, 0, 2, 100));
        Check.due("40 jobs as ever", paint.count(4), 40);
        Check.due("no tin is used", paint.left(1), 1);
        Check.due("look(39, BEGIN)", paint.look(39, 3), 39);
        Check.due("look(39, END)", paint.look(39, 4), 40);
        Check.index("look(40, BEGIN)", () -> paint.look(40, 3));
        Check.index("peel(40)", () -> paint.peel(40));
        Check.index("risk(40)", () -> paint.risk(40));
        Check.due("in the first", paint.may(0, 0), false);
        Check.due("in the last", paint.may(0, 39), false);
        Check.due("behind the last", paint.may(0, 40), true);
        Check.due("order steps behind all of them", paint.order(0, 0, 1, 0, 0), 41);
        Check.due("put steps behind all of them", paint.put(0, 1, 0, -1), 41);
        Check.due("put at both bays", paint.put(0, 3, 0, -1), 42);
        Check.due("ends asks for none of them", paint.ends(0, 0, 0, 0), 1);
    }

    private static void fortyJobsPast() {
        BridgePaint paint = forty();
        Check.due("last on day 0", paint.last(0, 0, 0), 11);
        Check.due("last on day 3", paint.last(0, 3, 0), 39);
        Check.due("left", paint.left(0), 0);
        Check.due("caught on day 0", paint.caught(0, 0, 0), 24);
        Check.due("caught on days 0 to 3", paint.caught(0, 3, 0), 80);
        Check.due("recall", paint.recall(0, 0, false), 1);
        Check.due("bare", paint.bare(0, 0, 199, 0), 200 - 34);
        Check.due("peels", paint.peels(0, 0, true), 39);
        Check.due("peels of gang 1", paint.peels(1, 0, true), 1);
        Check.due("peel(39)", paint.peel(39), true);
        Check.due("worst", paint.worst(0), 1);
        for (int job = 0; job < 39; job++) {
            Check.due("peel(" + job + ")", paint.peel(job), true);
        }
        Check.due("all of them peel", paint.peels(0, 0, false), 39);
        Check.due("as fractions they are the same", paint.worst(0), 0);
        Check.due("told on day 0, none of them holds", paint.bare(0, 0, 199, 0), 200);
        paint.weather(3, 3, 3, 3, 9, 0);
        Check.due("risk(39)", paint.risk(39), 45);
        Check.due("risk(38)", paint.risk(38), 0);
        Check.due("no match, as there is none left", paint.match(9, 0), 1);
    }

    private static void fortyJobsImage() {
        BridgePaint paint = forty();
        List<String> due = Whole.of(forty());
        paint.image();
        paint.peel(39);
        paint.days(9);
        Check.due("back", paint.back(), true);
        Check.due("40 jobs are back", paint.count(4), 40);
        Check.full("a 41st", () -> paint.job(0, 1, 0, 1, 0));
        Check.due("it does not peel", paint.look(39, 6), -1);
        String changed = Whole.difference(Whole.of(paint).subList(0, 9), due.subList(0, 9));
        Check.due("all is as it was, not " + changed, changed == null, true);
        BridgePaint early = new BridgePaint();
        early.bay(0, 0, 1, 0);
        early.gang(1);
        early.batch(99, 0, 0);
        Check.terms(early, "");
        early.job(0, 0, 0, 0, 50);
        early.image();
        for (int job = 1; job < 40; job++) {
            early.job(0, 0, 0, 0, job);
        }
        Check.full("a 41st of these", () -> early.job(0, 0, 0, 0, 60));
        early.back();
        Check.due("one job is back", early.count(4), 1);
        Check.due("they are gone", early.may(0, 39), true);
        Check.due("its tins are back", early.left(0), 98);
        Check.due("a job again", early.job(0, 0, 0, 0, 39), 1);
        Check.due("the one that was kept", early.may(0, 50), false);
    }

    private static BridgePaint plain() {
        BridgePaint paint = new BridgePaint();
        paint.bay(0, 0, 1, 300);
        paint.bay(0, 0, 1, 300);
        Check.terms(paint, "");
        return paint;
    }

    private static void fullWeather() {
        BridgePaint paint = plain();
        for (int telling = 0; telling < 30; telling++) {
            Check.due("telling", paint.weather(5, 5, 0, 11, 3, telling), telling);
        }
        Check.due("the 30th counts", paint.at(0, 0, 5, 0, 4), 29);
        Check.full("a 31st", () -> paint.weather(5, 5, 0, 11, 3, 30));
        Check.due("a 31st does not", paint.at(0, 0, 5, 0, 4), 29);
        Check.due("30 tellings", paint.count(9), 30);
    }

    private static void fullSpans() {
        BridgePaint paint = plain();
        paint.trains(1);
        for (int i = 1; i <= 6; i++) {
            Check.due("had", paint.span(false, 10 * i, 10 * i), i);
        }
        for (int i = 1; i <= 5; i++) {
            Check.due("strike", paint.span(true, 10 * i, 10 * i), i);
        }
        Check.full("had, a 7th", () -> paint.span(false, 70, 70));
        Check.full("a 6th strike", () -> paint.span(true, 60, 60));
        for (int i = 1; i <= 7; i++) {
            Check.due("a train on day " + 10 * i, paint.at(0, 0, 10 * i, 0, 6), i <= 6 ? 0 : 1);
            Check.due("a strike on day " + 10 * i, paint.why(0, 0, 10 * i, 0), i <= 5 ? 1 : 0);
        }
        BridgePaint strikes = plain();
        for (int i = 1; i <= 5; i++) {
            strikes.span(true, 0, 0);
        }
        Check.due("strikes leave the room of the others", strikes.span(false, 0, 0), 1);
        Check.full("a strike more", () -> strikes.span(true, 0, 0));
        for (int i = 2; i <= 6; i++) {
            strikes.span(false, 0, 0);
        }
        Check.full("had more", () -> strikes.span(false, 0, 0));
    }

    private static void fullNests() {
        BridgePaint paint = plain();
        for (int nest = 0; nest < 8; nest++) {
            Check.due("nest", paint.nest(nest % 2, nest, nest), nest);
        }
        Check.full("a 9th", () -> paint.nest(0, 8, 8));
        for (int day = 0; day <= 8; day++) {
            for (int bay = 0; bay < 2; bay++) {
                Check.due("a nest on day " + day + " at bay " + bay, paint.at(0, bay, day, 11, 7),
                        day < 8 && day % 2 == bay ? 1 : 0);
            }
        }
    }

    private static void fullReadings() {
        BridgePaint paint = plain();
        for (int reading = 0; reading < 30; reading++) {
            Check.due("reading", paint.reading(reading % 2, 7, 100 + reading), reading);
        }
        Check.full("a 31st", () -> paint.reading(0, 7, 500));
        Check.due("the last told at bay 0", paint.steel(0, 7, 0, true), 130);
        Check.due("the last told at bay 1", paint.steel(1, 7, 0, true), 131);
        Check.due("30 readings", paint.count(5), 30);
    }

    private static void fullBolts() {
        BridgePaint paint = plain();
        for (int bolt = 1; bolt <= 30; bolt++) {
            Check.due("bolt", paint.bolt(bolt <= 15 ? 1 : 0, bolt), bolt);
        }
        Check.due("a 31st at bay 1", paint.bolt(1, 31), -1);
        Check.due("it did not come", paint.finds(1, 0, 199), 15);
        Check.due("15 and 15: the least", paint.thick(), 0);
        Check.due("the 30th", paint.finds(0, 30, 30), 1);
        Check.due("30 bolts", paint.count(6), 30);
        Check.index("a 31st at a bay that is none", () -> paint.bolt(2, 0));
    }

    private static void fullTexts() {
        BridgePaint paint = plain();
        Check.due("terms 1", Check.terms(paint, "pay 1"), 1);
        Check.due("terms 2", Check.terms(paint, "pay 2"), 2);
        Check.full("a fourth", () -> Check.terms(paint, "pay 3"));
        Check.full("a fourth that is empty", () -> Check.terms(paint, ""));
        Check.full("a fourth of blanks", () -> Check.terms(paint, "  "));
        Check.argument("a fourth that is wrong", () -> Check.terms(paint, "pay"));
        Check.due("terms 2 are as they were", paint.at(2, 0, 0, 0, 2), 2);
        Check.index("terms 3", () -> paint.why(3, 0, 0, 0));
        Check.due("three", paint.count(1), 3);
    }

    private static void refused(String what, Class<? extends RuntimeException> kind, Consumer<BridgePaint> fill,
            Consumer<BridgePaint> call) {
        BridgePaint paint = Whole.told();
        BridgePaint other = Whole.told();
        fill.accept(paint);
        fill.accept(other);
        Check.refused(what, kind, () -> call.accept(paint));
        unchanged(what, paint, other);
    }

    private static void unchanged(String what, BridgePaint paint, BridgePaint other) {
        String changed = Whole.difference(Whole.of(paint), Whole.of(other));
        Check.due(what + " changes " + changed, changed == null, true);
    }

    private static Consumer<BridgePaint> often(int times, Consumer<BridgePaint> call) {
        return paint -> {
            for (int i = 0; i < times; i++) {
                call.accept(paint);
            }
        };
    }

    /** What is refused as there is no room changes nothing, nor does what is wrong besides. */
    private static void fullRefused() {
        Class<UnsupportedOperationException> full = UnsupportedOperationException.class;
        Class<IllegalArgumentException> argument = IllegalArgumentException.class;
        Class<IndexOutOfBoundsException> index = IndexOutOfBoundsException.class;
        Consumer<BridgePaint> bays = often(5, paint -> paint.bay(1, 1, 1, 1));
        refused("a ninth bay", full, bays, paint -> paint.bay(0, 2, 2, 2));
        refused("a wrong ninth bay", argument, bays, paint -> paint.bay(0, 2, 2, 501));
        Consumer<BridgePaint> tellings = often(28, paint -> paint.weather(3, 4, 5, 6, 7, 8));
        refused("a 31st telling", full, tellings, paint -> paint.weather(0, 199, 0, 11, -5, 30));
        refused("a wrong 31st telling", argument, tellings, paint -> paint.weather(0, 199, 0, 11, -5, 31));
        refused("a 31st telling of no day", index, tellings, paint -> paint.weather(0, 200, 0, 11, -5, 30));
        Consumer<BridgePaint> had = often(5, paint -> paint.span(false, 8, 8));
        refused("had, a 7th", full, had, paint -> paint.span(false, 0, 199));
        refused("had, a wrong 7th", argument, had, paint -> paint.span(false, 1, 0));
        refused("had, a 7th of no day", index, had, paint -> paint.span(false, 0, 200));
        Consumer<BridgePaint> strikes = often(4, paint -> paint.span(true, 8, 8));
        refused("a 6th strike", full, strikes, paint -> paint.span(true, 0, 199));
        refused("a wrong 6th strike", argument, strikes, paint -> paint.span(true, 1, 0));
        refused("a 6th strike on no day", index, strikes, paint -> paint.span(true, 200, 199));
        Consumer<BridgePaint> nests = often(7, paint -> paint.nest(2, 8, 8));
        refused("a 9th nest", full, nests, paint -> paint.nest(0, 0, 199));
        refused("a wrong 9th nest", argument, nests, paint -> paint.nest(0, 1, 0));
        refused("a 9th nest at no bay", index, nests, paint -> paint.nest(3, 0, 199));
        Consumer<BridgePaint> gangs = often(2, paint -> paint.gang(3));
        refused("a fifth gang", full, gangs, paint -> paint.gang(5));
        refused("a wrong fifth gang", argument, gangs, paint -> paint.gang(6));
        Consumer<BridgePaint> batches = often(4, paint -> paint.batch(1, 1, 1));
        refused("a seventh batch", full, batches, paint -> paint.batch(9, 9, 9));
        refused("a wrong seventh batch", argument, batches, paint -> paint.batch(100, 9, 9));
        Consumer<BridgePaint> readings = often(28, paint -> paint.reading(0, 8, 8));
        refused("a 31st reading", full, readings, paint -> paint.reading(0, 0, 0));
        refused("a wrong 31st reading", argument, readings, paint -> paint.reading(0, 0, 501));
        refused("a 31st reading at no bay", index, readings, paint -> paint.reading(3, 0, 0));
        Consumer<BridgePaint> jobs = paint -> {
            paint.batch(99, 0, 0);
            for (int job = 3; job < 40; job++) {
                Check.due("job", paint.job(1, 2, 0, 2, 100 + 31 * job), job);
            }
        };
        refused("a 41st job", full, jobs, paint -> paint.job(1, 0, 0, 2, 1000));
        refused("a 41st job of no batch", index, jobs, paint -> paint.job(1, 0, 0, 3, 1000));
        Consumer<BridgePaint> texts = paint -> {
            Check.terms(paint, "pay 1");
            paint.end(0);
        };
        refused("a fourth text", full, texts, paint -> paint.terms());
    }

    /** "a call that throws changes nothing but the TAPE, where it is used up, and fault(), where a text is read" */
    private static void textsRefused() {
        String[] texts = {"stop if rain", "pay 9;pay 8;dry 7;holds 6;stop if 1<2;pay", "dry 49", "((((((("};
        int[] faults = {8, 41, 4, 0};
        for (int i = 0; i < texts.length; i++) {
            for (int more = 0; more < 2; more++) {
                BridgePaint paint = Whole.told();
                BridgePaint other = Whole.told();
                for (int terms = 0; terms < more; terms++) {
                    Check.due("a third text", Check.terms(paint, "pay 1"), 2);
                    Check.due("a third text", Check.terms(other, "pay 1"), 2);
                }
                String text = texts[i];
                Check.argument("terms() of " + text, () -> Check.terms(paint, text));
                other.end(0);
                List<String> found = Whole.of(paint);
                List<String> due = Whole.of(other);
                Check.due(found.get(0) + " of " + text, found.get(0).equals("fault " + faults[i]), true);
                String changed = Whole.difference(found.subList(1, found.size()), due.subList(1, due.size()));
                Check.due("all else is as it was, not " + changed, changed == null, true);
            }
        }
    }

    private static void answered(String what, Object due, Consumer<BridgePaint> fill, Function<BridgePaint, Object> call) {
        BridgePaint paint = Whole.told();
        BridgePaint other = Whole.told();
        fill.accept(paint);
        fill.accept(other);
        Check.due(what, call.apply(paint).equals(due), true);
        unchanged(what, paint, other);
    }

    /** What answers NONE or false has done nothing. */
    private static void nothingHappens() {
        Consumer<BridgePaint> none = paint -> paint.thick();
        answered("a job that may not begin", -1, none, paint -> paint.job(0, 0, 0, 1, 2));
        answered("a job without an end", -1, none, paint -> paint.job(0, 0, 0, 1, 2399));
        Consumer<BridgePaint> tins = paint -> {
            for (int job = 0; job < 3; job++) {
                Check.due("two tins of seven", paint.job(0, 1, 0, 0, 1000 + 100 * job), 3 + job);
            }
        };
        answered("a job of two tins with one left", -1, tins, paint -> paint.job(0, 1, 0, 0, 1500));
        answered("a job of two tins with one left, at another bay", -1, tins, paint -> paint.job(0, 0, 0, 0, 1500));
        answered("peel again", false, none, paint -> paint.peel(0));
        answered("fail again", false, none, paint -> paint.fail(0));
        answered("end(-1)", false, none, paint -> paint.end(-1));
        answered("end(least)", false, none, paint -> paint.end(Integer.MIN_VALUE));
        answered("end behind the tape", false, none, paint -> paint.end(Whole.TAPE.length() + 1));
        answered("end(most)", false, none, paint -> paint.end(Integer.MAX_VALUE));
        answered("end(its length)", true, none, paint -> paint.end(Whole.TAPE.length()));
        answered("days(0)", Whole.TODAY, none, paint -> paint.days(0));
        answered("count(10)", -1, none, paint -> paint.count(10));
        Consumer<BridgePaint> bolts = often(28, paint -> paint.bolt(0, 3));
        answered("a 31st bolt", -1, bolts, paint -> paint.bolt(1, 1));
        Consumer<BridgePaint> feeds = often(19, paint -> paint.feed(0, 0, 0, 0, 0));
        answered("feed, a 21st", -1, feeds, paint -> paint.feed(1, 1, 1, 1, 1));
        BridgePaint paint = plain();
        List<String> due = Whole.of(plain());
        Check.due("back without an image", paint.back(), false);
        String changed = Whole.difference(Whole.of(paint), due);
        Check.due("it changes " + changed, changed == null, true);
    }
}
