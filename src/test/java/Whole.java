import java.util.ArrayList;
import java.util.List;
import java.util.function.Supplier;

/**
 * An object of many things, always told in the same way, and all that calls can tell of one. Two objects told alike
 * answer alike; so what a refused call changed shows against one on which it was not called. The whole of an object
 * takes fewer than 512 calls, its telling too.
 */
final class Whole {
    static final int BAYS = 3;
    static final int TERMS = 2;
    static final int GANGS = 2;
    static final int BATCHES = 2;
    static final int JOBS = 3;
    static final int TODAY = 7;
    static final String TAPE = "pay 8 ; dry 4 if nes";

    private Whole() {
    }

    /** Three bays, two texts, two gangs, two batches, three jobs, some of all else, an image, a tape and a fault. */
    static BridgePaint told() {
        BridgePaint paint = new BridgePaint();
        paint.bay(0, 3, 5, 300);
        paint.bay(1, 9, 8, 120);
        paint.bay(0, 0, 2, 500);
        Check.terms(paint, "stop if wet; stop if train; dry 3; holds 2; pay 7 if hour > 3");
        Check.terms(paint, "stop if nest and wind > 1; dry 30 if heat < 9");
        paint.gang(2);
        paint.gang(5);
        paint.batch(9, 3, 10);
        paint.batch(7, 40, 200);
        paint.weather(0, 9, 2, 3, -3, 8);
        paint.trains(0x120);
        paint.span(false, 1, 1);
        paint.span(true, 4, 4);
        paint.nest(1, 0, 2);
        paint.job(0, 0, 0, 0, 0);
        paint.rust(1, 0, 3);
        paint.reading(1, 3, 90);
        paint.cost(0, 2, 3);
        paint.wear(0, 9, 5, 4);
        paint.bolt(1, 1);
        paint.days(3);
        paint.image();
        paint.job(1, 1, 1, 1, 12);
        paint.job(0, 0, 1, 1, 40);
        paint.days(4);
        paint.peel(0);
        paint.fail(0);
        paint.weather(2, 2, 0, 11, 6, 20);
        paint.reading(0, 6, 250);
        paint.cost(2, 1, 1);
        paint.wear(2, 8, 7, 6);
        paint.bolt(2, 5);
        Check.tape(paint, "stop if rain");
        try {
            paint.terms();
        } catch (IllegalArgumentException thrown) {
            Check.tape(paint, TAPE);
        }
        return paint;
    }

    /** What the calls answer, or throw; the tape is used up by it, and one goes back to the image. */
    static List<String> of(BridgePaint paint) {
        List<String> all = new ArrayList<>();
        all.add("fault " + paint.fault());
        world(paint, all);
        all.add("tape " + answer(() -> paint.feed(0, 0, 0, 0, 0)));
        paint.end(20);
        all.add("terms " + answer(paint::terms));
        all.add("its fault " + paint.fault());
        all.add("the tape behind it " + paint.end(1));
        all.add("back " + paint.back());
        world(paint, all);
        return all;
    }

    static String answer(Supplier<Object> call) {
        try {
            return String.valueOf(call.get());
        } catch (RuntimeException thrown) {
            return thrown.getClass().getName();
        }
    }

    /** The first difference, or null. */
    static String difference(List<String> found, List<String> due) {
        for (int i = 0; i < Math.max(found.size(), due.size()); i++) {
            String one = i < found.size() ? found.get(i) : "nothing";
            String other = i < due.size() ? due.get(i) : "nothing";
            if (!one.equals(other)) {
                return one + " where due is " + other;
            }
        }
        return null;
    }

    private static void world(BridgePaint paint, List<String> all) {
        StringBuilder counts = new StringBuilder("counts");
        for (int what = 0; what < 10; what++) {
            counts.append(' ').append(paint.count(what));
        }
        all.add(counts.toString());
        int bays = paint.count(0);
        int today = paint.count(7);
        for (int bay = 0; bay < bays; bay++) {
            place(paint, bay, today, all);
        }
        for (int gang = 0; gang < paint.count(2); gang++) {
            all.add("gang " + gang + " " + paint.peels(gang, today, false) + " " + paint.peels(gang, today, true) + " "
                    + answer(paint, gang));
        }
        for (int batch = 0; batch < paint.count(3); batch++) {
            all.add("batch " + batch + " " + paint.left(batch) + " " + paint.recall(batch, today, false) + " "
                    + paint.recall(batch, today, true));
        }
        for (int job = 0; job < Math.min(paint.count(4), 4); job++) {
            StringBuilder row = new StringBuilder("job " + job);
            for (int what = 0; what < 8; what++) {
                row.append(' ').append(paint.look(job, what));
            }
            all.add(row + " risk " + paint.risk(job));
        }
        all.add("caught " + paint.caught(0, 199, today));
        all.add("worst " + paint.worst(today));
        all.add("match " + paint.match(10, today) + " " + paint.match(10, 0));
        all.add("even " + paint.even(2));
        all.add("spent " + paint.spent(0, -1) + " " + paint.spent(3, -1));
        all.add("thick " + paint.thick());
    }

    private static String answer(BridgePaint paint, int gang) {
        return paint.count(1) == 0 || paint.count(0) == 0 ? "-" : paint.ends(0, 0, gang, 0) + "";
    }

    private static void place(BridgePaint paint, int bay, int today, List<String> all) {
        StringBuilder row = new StringBuilder("bay " + bay);
        row.append(" spent ").append(paint.spent(3, bay)).append(' ').append(paint.spent(2, bay));
        row.append(" last ").append(paint.last(bay, 199, today));
        row.append(" bare ").append(paint.bare(bay, 0, 9, today));
        row.append(" steel ").append(paint.steel(bay, 9, today, false)).append(' ').append(paint.steel(bay, 9, 0, true));
        row.append(" below ").append(paint.below(bay, 50, today));
        row.append(" finds ").append(paint.finds(bay, 0, 199));
        row.append(" may ").append(paint.may(bay, 2)).append(' ').append(paint.may(bay, 50));
        // Some bays are enough here, so that eight of them do not take more than 512 calls.
        for (int terms = 0; bay < 4 && terms < paint.count(1); terms++) {
            for (int what = 0; what < 4; what++) {
                row.append(' ').append(paint.hours(terms, bay, 0, 9, what));
            }
            for (int what = 0; what < 8; what++) {
                row.append(' ').append(paint.at(terms, bay, 2, 5, what));
            }
            row.append(' ').append(paint.why(terms, bay, 1, 2));
        }
        all.add(row.toString());
    }
}
