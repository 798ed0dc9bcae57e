/** Promises 15 to 22: gangs, batches, works, jobs, what peels and fails. */
final class JobTest {
    private JobTest() {
    }

    public static void main(String[] args) {
        promise15();
        promise16();
        promise17();
        promise17Wrong();
        promise18();
        promise18Retold();
        promise19();
        promise19None();
        promise19Full();
        promise19Wrong();
        promise20();
        promise21();
        promise22();
        Check.finish("JobTest");
    }

    /** Bays of 8, 9 and 20 hours; gangs of skill 1, 3 and 5; a batch of 99 tins; terms by the texts. */
    private static BridgePaint ready(String... texts) {
        BridgePaint paint = new BridgePaint();
        paint.bay(0, 3, 8, 300);
        paint.bay(1, 9, 9, 500);
        paint.bay(1, 0, 20, 500);
        paint.gang(1);
        paint.gang(3);
        paint.gang(5);
        paint.batch(99, 2, 7);
        for (String text : texts) {
            Check.terms(paint, text);
        }
        return paint;
    }

    private static void promise15() {
        BridgePaint paint = new BridgePaint();
        Check.argument("skill 0", () -> paint.gang(0));
        Check.argument("skill 6", () -> paint.gang(6));
        Check.argument("skill -1", () -> paint.gang(-1));
        Check.due("none came", paint.count(2), 0);
        Check.due("gang 0", paint.gang(1), 0);
        Check.due("gang 1", paint.gang(5), 1);
        Check.due("gang 2", paint.gang(5), 2);
        Check.due("gang 3", paint.gang(5), 3);
        Check.full("a fifth gang", () -> paint.gang(5));
        Check.argument("a wrong fifth gang", () -> paint.gang(6));
        Check.due("four gangs", paint.count(2), 4);
    }

    private static void promise16() {
        BridgePaint paint = new BridgePaint();
        Check.argument("tins 100", () -> paint.batch(100, 0, 0));
        Check.argument("tins -1", () -> paint.batch(-1, 0, 0));
        Check.argument("lead 51", () -> paint.batch(0, 51, 0));
        Check.argument("lead -1", () -> paint.batch(0, -1, 0));
        Check.argument("colour 256", () -> paint.batch(0, 0, 256));
        Check.argument("colour -1", () -> paint.batch(0, 0, -1));
        Check.due("none came", paint.count(3), 0);
        Check.due("the most of all", paint.batch(99, 50, 255), 0);
        for (int batch = 1; batch < 6; batch++) {
            Check.due("batch " + batch, paint.batch(0, 0, 0), batch);
        }
        Check.full("a seventh batch", () -> paint.batch(0, 0, 0));
        Check.argument("a wrong seventh batch", () -> paint.batch(0, 0, 256));
        Check.due("six batches", paint.count(3), 6);
        Check.due("its tins", paint.left(0), 99);
    }

    private static void promise17() {
        BridgePaint paint = ready("", "stop if hour < 6", "stop if 0 < 1");
        Check.due("8 hours, skill 1", paint.ends(0, 0, 0, 0), 8);
        Check.due("8 hours, skill 3: 3 moments", paint.ends(0, 0, 1, 0), 3);
        Check.due("9 hours, skill 3: 3 moments", paint.ends(0, 1, 1, 0), 3);
        Check.due("8 hours, skill 5: 2 moments", paint.ends(0, 0, 2, 5), 7);
        Check.due("20 hours, skill 5: 4 moments", paint.ends(0, 2, 2, 5), 9);
        Check.due("from hour 5 on, open from 6 on", paint.ends(1, 0, 0, 5), 20);
        Check.due("from hour 11 on: 1 and 6 and 1", paint.ends(1, 0, 0, 11), 31);
        Check.due("two moments at the end of all", paint.ends(0, 0, 2, 2398), 2400);
        Check.due("day 199 is over", paint.ends(0, 0, 2, 2399), -1);
        Check.due("never open", paint.ends(2, 0, 2, 0), -1);
        paint.span(true, 0, 3);
        Check.due("behind a strike", paint.ends(0, 0, 0, 4), 56);
        paint.job(0, 0, 0, 0, 48);
        Check.due("whether it may begin or not", paint.ends(0, 0, 0, 48), 56);
    }

    private static void promise17Wrong() {
        BridgePaint paint = ready("");
        Check.index("terms 1", () -> paint.ends(1, 0, 0, 0));
        Check.index("bay 3", () -> paint.ends(0, 3, 0, 0));
        Check.index("gang 3", () -> paint.ends(0, 0, 3, 0));
        Check.index("gang -1", () -> paint.ends(0, 0, -1, 0));
        Check.index("moment 2400", () -> paint.ends(0, 0, 0, 2400));
        Check.index("moment -1", () -> paint.ends(0, 0, 0, -1));
    }

    private static void promise18() {
        BridgePaint paint = ready("dry 4", "stop if hour > 5; dry 0");
        Check.due("no job", paint.may(0, 0), true);
        Check.due("the last moment", paint.may(0, 2399), true);
        Check.due("job 0 from 24 to 32, dry at 36", paint.job(0, 0, 0, 0, 24), 0);
        Check.due("ahead of it", paint.may(0, 23), true);
        Check.due("its begin", paint.may(0, 24), false);
        Check.due("its last moment", paint.may(0, 31), false);
        Check.due("its end", paint.may(0, 32), false);
        Check.due("not dry", paint.may(0, 35), false);
        Check.due("dry", paint.may(0, 36), true);
        Check.due("another bay", paint.may(1, 24), true);
        Check.due("job 1 from 60 to 74, with hours that are not open", paint.job(1, 0, 0, 0, 60), 1);
        Check.due("its end", paint.look(1, 4), 74);
        Check.due("not open, but in it", paint.may(0, 70), false);
        Check.due("behind it, at once dry", paint.may(0, 74), true);
        Check.due("between the jobs", paint.may(0, 59), true);
        Check.index("bay 3", () -> paint.may(3, 0));
        Check.index("bay -1", () -> paint.may(-1, 0));
        Check.index("moment 2400", () -> paint.may(0, 2400));
        Check.index("moment -1", () -> paint.may(0, -1));
        BridgePaint closed = ready("stop if 0 < 1");
        Check.due("it may begin where it is not open", closed.may(0, 0), true);
    }

    /** DRY is that at the last moment, by the job's terms, with the weather as it is told now. */
    private static void promise18Retold() {
        BridgePaint paint = ready("dry 10 if wet", "dry 48");
        paint.job(0, 0, 0, 0, 0);
        Check.due("dry at once", paint.may(0, 8), true);
        paint.weather(0, 0, 8, 8, -1, 10);
        Check.due("wet behind its last moment", paint.may(0, 8), true);
        paint.weather(0, 0, 7, 7, -1, 10);
        Check.due("wet at its last moment", paint.may(0, 8), false);
        Check.due("wet at its last moment: 17", paint.may(0, 17), false);
        Check.due("wet at its last moment: 18", paint.may(0, 18), true);
        paint.weather(0, 0, 0, 11, 0, 10);
        Check.due("told again", paint.may(0, 8), true);
        paint.weather(0, 0, 7, 7, -1, 10);
        paint.weather(0, 199, 0, 11, 0, 10);
        Check.due("a job of other terms", paint.job(1, 0, 2, 0, 8), 1);
        Check.due("its own dry", paint.may(0, 57), false);
        Check.due("its own dry is over", paint.may(0, 58), true);
    }

    private static void promise19() {
        BridgePaint paint = ready("dry 4");
        Check.due("job 0", paint.job(0, 0, 0, 0, 10), 0);
        Check.due("two tins for 8 hours", paint.left(0), 97);
        Check.due("job 1", paint.job(0, 1, 1, 0, 10), 1);
        Check.due("three tins for 9 hours", paint.left(0), 94);
        Check.due("job 2", paint.job(0, 2, 2, 0, 10), 2);
        Check.due("five tins for 20 hours", paint.left(0), 89);
        Check.due("a job ahead of another one, into it", paint.job(0, 0, 0, 0, 5), 3);
        Check.due("four jobs", paint.count(4), 4);
        paint.span(true, 0, 199);
        Check.due("its end is as it was then", paint.look(0, 4), 18);
    }

    private static void promise19None() {
        BridgePaint paint = ready("dry 4", "stop if 0 < 1");
        paint.batch(4, 0, 0);
        Check.due("it has no end", paint.job(1, 0, 0, 0, 0), -1);
        Check.due("day 199 is over", paint.job(0, 0, 0, 0, 2393), -1);
        Check.due("day 199 is not over", paint.job(0, 0, 0, 0, 2392), 0);
        Check.due("it may not begin", paint.job(0, 0, 0, 0, 2395), -1);
        Check.due("tins are not enough", paint.job(0, 2, 0, 1, 0), -1);
        Check.due("none are used", paint.left(1), 4);
        Check.due("tins are enough", paint.job(0, 0, 0, 1, 0), 1);
        Check.due("not dry", paint.job(0, 0, 0, 1, 11), -1);
        Check.due("the last tins", paint.job(0, 0, 0, 1, 12), 2);
        Check.due("no tins left", paint.left(1), 0);
        Check.due("none left", paint.job(0, 1, 0, 1, 0), -1);
        Check.due("another batch", paint.job(0, 1, 0, 0, 0), 3);
        Check.due("four jobs", paint.count(4), 4);
    }

    private static void promise19Full() {
        BridgePaint paint = ready("");
        for (int job = 0; job < 40; job++) {
            Check.due("job " + job, paint.job(0, 0, 2, 0, 2 * job), job);
        }
        Check.due("19 tins left", paint.left(0), 19);
        Check.full("a 41st job", () -> paint.job(0, 0, 2, 0, 200));
        Check.full("a 41st job that may not begin", () -> paint.job(0, 0, 2, 0, 0));
        Check.index("a wrong 41st job", () -> paint.job(0, 0, 2, 0, 2400));
        Check.due("40 jobs", paint.count(4), 40);
        Check.due("behind all", paint.may(0, 80), true);
        Check.due("in the last one", paint.may(0, 79), false);
    }

    private static void promise19Wrong() {
        BridgePaint paint = ready("");
        Check.index("terms 1", () -> paint.job(1, 0, 0, 0, 0));
        Check.index("bay 3", () -> paint.job(0, 3, 0, 0, 0));
        Check.index("gang 3", () -> paint.job(0, 0, 3, 0, 0));
        Check.index("batch 1", () -> paint.job(0, 0, 0, 1, 0));
        Check.index("batch -1", () -> paint.job(0, 0, 0, -1, 0));
        Check.index("moment 2400", () -> paint.job(0, 0, 0, 0, 2400));
        Check.index("moment -1", () -> paint.job(0, 0, 0, 0, -1));
        Check.due("no job", paint.count(4), 0);
    }

    private static void promise20() {
        BridgePaint paint = ready("", "dry 1");
        paint.batch(50, 0, 0);
        paint.days(9);
        Check.due("job 0", paint.job(1, 2, 1, 1, 30), 0);
        int[] due = {2, 1, 1, 30, 37, 9, -1, 1};
        for (int what = 0; what < 8; what++) {
            Check.due("look(0, " + what + ")", paint.look(0, what), due[what]);
        }
        Check.element("what 8", () -> paint.look(0, 8));
        Check.element("what -1", () -> paint.look(0, -1));
        Check.index("job 1", () -> paint.look(1, 0));
        Check.index("job -1", () -> paint.look(-1, 0));
        Check.index("the index first", () -> paint.look(1, 8));
        paint.days(2);
        paint.peel(0);
        Check.due("the day on which it was told to peel", paint.look(0, 6), 11);
        Check.due("the day on which it was told", paint.look(0, 5), 9);
    }

    private static void promise21() {
        BridgePaint paint = ready("");
        paint.job(0, 0, 0, 0, 0);
        paint.job(0, 0, 0, 0, 100);
        paint.days(5);
        Check.due("peel", paint.peel(1), true);
        paint.days(5);
        Check.due("peel again", paint.peel(1), false);
        Check.due("it is as it was", paint.look(1, 6), 5);
        Check.due("another one", paint.look(0, 6), -1);
        Check.due("another one peels", paint.peel(0), true);
        Check.due("on day 10", paint.look(0, 6), 10);
        Check.index("job 2", () -> paint.peel(2));
        Check.index("job -1", () -> paint.peel(-1));
        BridgePaint first = ready("");
        first.job(0, 0, 0, 0, 0);
        Check.due("peel on day 0", first.peel(0), true);
        Check.due("told on day 0", first.look(0, 6), 0);
        Check.due("again on day 0", first.peel(0), false);
    }

    private static void promise22() {
        BridgePaint paint = ready("");
        paint.batch(1, 1, 9);
        paint.days(3);
        Check.due("no batch failed", paint.match(9, 199), 1);
        Check.due("fail", paint.fail(1), true);
        paint.days(3);
        Check.due("fail again", paint.fail(1), false);
        Check.due("ahead of day 3 it is good", paint.match(9, 2), 1);
        Check.due("from day 3 on it is not, told again or not", paint.match(9, 3), 0);
        Check.index("batch 2", () -> paint.fail(2));
        Check.index("batch -1", () -> paint.fail(-1));
        Check.due("a batch that failed may be used", paint.job(0, 0, 0, 0, 0), 0);
    }
}
