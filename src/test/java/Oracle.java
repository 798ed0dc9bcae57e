import java.math.BigInteger;
import java.util.ArrayList;
import java.util.HashMap;
import java.util.List;
import java.util.Map;
import java.util.NoSuchElementException;
import java.util.Optional;
import java.util.function.IntPredicate;

/** The document again, told as plainly as may be: no rows kept, all tried out. Its methods are called by their names. */
final class Oracle {
    private static final int NONE = -1;

    /** All that an image keeps. */
    private static final class World {
        final List<int[]> bays = new ArrayList<>();
        final List<int[]> costs = new ArrayList<>();
        final List<int[]> wears = new ArrayList<>();
        final List<int[]> weather = new ArrayList<>();
        final List<int[]> had = new ArrayList<>();
        final List<int[]> strikes = new ArrayList<>();
        final List<int[]> nests = new ArrayList<>();
        final List<List<OracleText.Line>> texts = new ArrayList<>();
        final List<Integer> gangs = new ArrayList<>();
        final List<int[]> batches = new ArrayList<>();
        final List<Job> jobs = new ArrayList<>();
        final int[][] rust = {{1, 2}, {1, 2}};
        final List<int[]> readings = new ArrayList<>();
        final List<int[]> bolts = new ArrayList<>();
        int today = 0;
        int trainHours = 0;

        World copy() {
            World other = new World();
            copyRows(bays, other.bays);
            copyRows(costs, other.costs);
            copyRows(wears, other.wears);
            copyRows(weather, other.weather);
            copyRows(had, other.had);
            copyRows(strikes, other.strikes);
            copyRows(nests, other.nests);
            other.texts.addAll(texts);
            other.gangs.addAll(gangs);
            copyRows(batches, other.batches);
            for (Job job : jobs) {
                other.jobs.add(job.copy());
            }
            for (int side = 0; side < 2; side++) {
                other.rust[side] = rust[side].clone();
            }
            copyRows(readings, other.readings);
            copyRows(bolts, other.bolts);
            other.today = today;
            other.trainHours = trainHours;
            return other;
        }

        private static void copyRows(List<int[]> from, List<int[]> to) {
            for (int[] row : from) {
                to.add(row.clone());
            }
        }
    }

    private static final class Job {
        int bay;
        int gang;
        int batch;
        int begin;
        int end;
        int told;
        int peeled = NONE;
        int terms;

        Job copy() {
            Job other = new Job();
            other.bay = bay;
            other.gang = gang;
            other.batch = batch;
            other.begin = begin;
            other.end = end;
            other.told = told;
            other.peeled = peeled;
            other.terms = terms;
            return other;
        }
    }

    private World w = new World();
    private World kept = null;
    private final StringBuilder tape = new StringBuilder();
    private int wrong = NONE;

    // What is refused, in the order of the face.

    private static void index(boolean is) {
        if (!is) {
            throw new IndexOutOfBoundsException();
        }
    }

    private static void argument(boolean is) {
        if (!is) {
            throw new IllegalArgumentException();
        }
    }

    private static void room(boolean is) {
        if (!is) {
            throw new UnsupportedOperationException();
        }
    }

    private static void what(int what, int last) {
        if (what < 0 || what > last) {
            throw new NoSuchElementException();
        }
    }

    private static void day(int... days) {
        for (int day : days) {
            index(0 <= day && day < 200);
        }
    }

    private void isBay(int bay) {
        index(0 <= bay && bay < w.bays.size());
    }

    private void isTerms(int terms) {
        index(0 <= terms && terms < w.texts.size());
    }

    private void isGang(int gang) {
        index(0 <= gang && gang < w.gangs.size());
    }

    private void isBatch(int batch) {
        index(0 <= batch && batch < w.batches.size());
    }

    private void isJob(int job) {
        index(0 <= job && job < w.jobs.size());
    }

    private static void isMoment(int moment) {
        index(0 <= moment && moment < 2400);
    }

    private static void within(int number, int least, int greatest) {
        argument(least <= number && number <= greatest);
    }

    // The tape and its texts.

    public int feed(int a, int b, int c, int d, int e) {
        if (tape.length() + 20 > 400) {
            return NONE;
        }
        for (int number : new int[] {a, b, c, d, e}) {
            tape.append((char) (number >>> 24));
            tape.append((char) (number >>> 16 & 0xff));
            tape.append((char) (number >>> 8 & 0xff));
            tape.append((char) (number & 0xff));
        }
        return tape.length();
    }

    public boolean end(int n) {
        if (n < 0 || tape.length() < n) {
            return false;
        }
        tape.setLength(n);
        return true;
    }

    public int terms() {
        String text = tape.toString();
        tape.setLength(0);
        wrong = OracleText.firstWrong(text);
        argument(wrong == NONE);
        room(w.texts.size() < 3);
        w.texts.add(OracleText.read(text).orElseThrow());
        return w.texts.size() - 1;
    }

    public int fault() {
        return wrong;
    }

    // What is told.

    public int days(int n) {
        argument(n >= 0 && (long) w.today + n <= 199);
        w.today += n;
        return w.today;
    }

    public int bay(int side, int height, int need, int steel) {
        within(side, 0, 1);
        within(height, 0, 9);
        within(need, 1, 20);
        within(steel, 0, 500);
        room(w.bays.size() < 8);
        w.bays.add(new int[] {side, height, need, steel});
        w.costs.add(new int[3]);
        w.wears.add(new int[3]);
        return w.bays.size() - 1;
    }

    public int weather(int fromDay, int toDay, int fromHour, int toHour, int wind, int heat) {
        day(fromDay, toDay);
        index(0 <= fromHour && fromHour < 12 && 0 <= toHour && toHour < 12);
        argument(toDay >= fromDay);
        argument(toHour >= fromHour);
        within(heat, 0, 30);
        boolean wet = wind < 0;
        int force = wet ? -1 - wind : wind;
        within(force, 0, 9);
        room(w.weather.size() < 30);
        w.weather.add(new int[] {fromDay, toDay, fromHour, toHour, wet ? 1 : 0, force, heat});
        return w.weather.size() - 1;
    }

    public void trains(int hours) {
        argument((hours & ~0xfff) == 0);
        w.trainHours = hours;
    }

    public int span(boolean strike, int from, int to) {
        day(from, to);
        argument(to >= from);
        if (strike) {
            room(w.strikes.size() < 5);
            w.strikes.add(new int[] {from, to});
            return w.strikes.size();
        }
        room(w.had.size() < 6);
        w.had.add(new int[] {from, to});
        return w.had.size();
    }

    public int nest(int bay, int from, int to) {
        isBay(bay);
        day(from, to);
        argument(to >= from);
        room(w.nests.size() < 8);
        w.nests.add(new int[] {bay, from, to});
        return w.nests.size() - 1;
    }

    public int gang(int skill) {
        within(skill, 1, 5);
        room(w.gangs.size() < 4);
        w.gangs.add(skill);
        return w.gangs.size() - 1;
    }

    public int batch(int tins, int lead, int colour) {
        within(tins, 0, 99);
        within(lead, 0, 50);
        within(colour, 0, 255);
        room(w.batches.size() < 6);
        w.batches.add(new int[] {tins, lead, colour, NONE});
        return w.batches.size() - 1;
    }

    // A bay at a moment.

    private static boolean within(List<int[]> spans, int day) {
        return spans.stream().anyMatch(span -> span[0] <= day && day <= span[1]);
    }

    private OracleText.Spot spot(int bay, int moment) {
        OracleText.Spot spot = new OracleText.Spot();
        int day = moment / 12;
        int hour = moment - 12 * day;
        spot.facts.put("day", day);
        spot.facts.put("hour", hour);
        spot.facts.put("height", w.bays.get(bay)[1]);
        spot.facts.put("side", w.bays.get(bay)[0]);
        int[] felt = {0, 0, 0, 0, 0, 0, 10};
        for (int[] telling : w.weather) {
            if (telling[0] <= day && day <= telling[1] && telling[2] <= hour && hour <= telling[3]) {
                felt = telling;
            }
        }
        spot.facts.put("wind", felt[5]);
        spot.facts.put("heat", felt[6]);
        spot.tags.put("wet", felt[4] == 1);
        spot.tags.put("train", (w.trainHours & 1 << hour) != 0 && !within(w.had, day));
        spot.tags.put("nest", w.nests.stream().anyMatch(n -> n[0] == bay && n[1] <= day && day <= n[2]));
        return spot;
    }

    private int why(int terms, int moment, OracleText.Spot spot) {
        if (within(w.strikes, moment / 12)) {
            return 1;
        }
        List<OracleText.Line> lines = w.texts.get(terms);
        for (OracleText.Line line : lines) {
            if (line.kind.equals("stop") && line.holds(spot)) {
                return 2 + lines.indexOf(line);
            }
        }
        return 0;
    }

    private boolean isOpen(int terms, int bay, int moment) {
        return why(terms, moment, spot(bay, moment)) == 0;
    }

    private int number(int terms, OracleText.Spot spot, String kind, int without) {
        int number = without;
        for (OracleText.Line line : w.texts.get(terms)) {
            if (line.kind.equals(kind) && line.holds(spot)) {
                number = line.number;
            }
        }
        return number;
    }

    public int why(int terms, int bay, int day, int hour) {
        isTerms(terms);
        isBay(bay);
        day(day);
        index(0 <= hour && hour < 12);
        int moment = day * 12 + hour;
        return why(terms, moment, spot(bay, moment));
    }

    public int at(int terms, int bay, int day, int hour, int what) {
        isTerms(terms);
        isBay(bay);
        day(day);
        index(0 <= hour && hour < 12);
        what(what, 7);
        OracleText.Spot spot = spot(bay, day * 12 + hour);
        int[] answers = {number(terms, spot, "dry", 0), number(terms, spot, "holds", 30),
            number(terms, spot, "pay", 0), spot.facts.get("wind"), spot.facts.get("heat"),
            spot.tags.get("wet") ? 1 : 0, spot.tags.get("train") ? 1 : 0, spot.tags.get("nest") ? 1 : 0};
        return answers[what];
    }

    public int hours(int terms, int bay, int from, int to, int what) {
        isTerms(terms);
        isBay(bay);
        day(from, to);
        argument(to >= from);
        what(what, 3);
        int[] sums = new int[4];
        for (int moment = from * 12; moment <= to * 12 + 11; moment++) {
            OracleText.Spot spot = spot(bay, moment);
            int why = why(terms, moment, spot);
            sums[why == 0 ? 0 : 1]++;
            OracleText.Spot quiet = spot(bay, moment);
            quiet.tags.put("train", false);
            if (why != 0 && why(terms, moment, quiet) == 0) {
                sums[2]++;
                sums[3] += number(terms, spot, "pay", 0);
            }
        }
        return sums[what];
    }

    // Works and jobs.

    private int end(int terms, int bay, int gang, int moment) {
        int need = w.bays.get(bay)[2];
        int hours = 0;
        while (hours * w.gangs.get(gang) < need) {
            hours++;
        }
        for (int m = moment; m < 2400; m++) {
            if (isOpen(terms, bay, m)) {
                hours--;
            }
            if (hours == 0) {
                return m + 1;
            }
        }
        return NONE;
    }

    private boolean begins(int bay, int moment) {
        for (Job job : w.jobs) {
            if (job.bay == bay && job.end <= moment
                    && moment < job.end + number(job.terms, spot(bay, job.end - 1), "dry", 0)) {
                return false;
            }
            if (job.bay == bay && job.begin <= moment && moment < job.end) {
                return false;
            }
        }
        return true;
    }

    private int firstEnd(int terms, int bay, int gang, int from) {
        for (int moment = from; moment < 2400; moment++) {
            if (begins(bay, moment)) {
                return end(terms, bay, gang, moment);
            }
        }
        return NONE;
    }

    private int tins(int bay) {
        int tins = 0;
        while (4 * tins < w.bays.get(bay)[2]) {
            tins++;
        }
        return tins;
    }

    private int tinsLeft(int batch) {
        return w.batches.get(batch)[0]
                - w.jobs.stream().filter(job -> job.batch == batch).mapToInt(job -> tins(job.bay)).sum();
    }

    public int ends(int terms, int bay, int gang, int moment) {
        isTerms(terms);
        isBay(bay);
        isGang(gang);
        isMoment(moment);
        return end(terms, bay, gang, moment);
    }

    public boolean may(int bay, int moment) {
        isBay(bay);
        isMoment(moment);
        return begins(bay, moment);
    }

    public int job(int terms, int bay, int gang, int batch, int moment) {
        isTerms(terms);
        isBay(bay);
        isGang(gang);
        isBatch(batch);
        isMoment(moment);
        room(w.jobs.size() < 40);
        int end = end(terms, bay, gang, moment);
        if (!begins(bay, moment) || end == NONE || tinsLeft(batch) < tins(bay)) {
            return NONE;
        }
        Job job = new Job();
        job.bay = bay;
        job.gang = gang;
        job.batch = batch;
        job.begin = moment;
        job.end = end;
        job.told = w.today;
        job.terms = terms;
        w.jobs.add(job);
        return w.jobs.size() - 1;
    }

    public int look(int job, int what) {
        isJob(job);
        what(what, 7);
        Job j = w.jobs.get(job);
        return new int[] {j.bay, j.gang, j.batch, j.begin, j.end, j.told, j.peeled, j.terms}[what];
    }

    public boolean peel(int job) {
        isJob(job);
        Job told = w.jobs.get(job);
        boolean isNew = told.peeled == NONE;
        if (isNew) {
            told.peeled = w.today;
        }
        return isNew;
    }

    public boolean fail(int batch) {
        isBatch(batch);
        boolean isNew = w.batches.get(batch)[3] == NONE;
        if (isNew) {
            w.batches.get(batch)[3] = w.today;
        }
        return isNew;
    }

    private List<Job> known(int day) {
        return w.jobs.stream().filter(job -> job.told <= day).toList();
    }

    public int last(int bay, int day, int known) {
        isBay(bay);
        day(day, known);
        int last = NONE;
        for (int i = 0; i < w.jobs.size(); i++) {
            Job job = w.jobs.get(i);
            if (job.bay == bay && job.told <= known && job.end <= 12 * day + 12
                    && (last == NONE || job.end >= w.jobs.get(last).end)) {
                last = i;
            }
        }
        return last;
    }

    public int recall(int batch, int known, boolean covered) {
        isBatch(batch);
        day(known);
        int bits = 0;
        for (Job job : known(known)) {
            if (job.batch == batch) {
                int bay = job.bay;
                boolean isCovered = known(known).stream().anyMatch(over -> over.bay == bay && over.batch != batch
                        && known(known).stream().allMatch(under -> under.bay != bay || under.batch != batch
                                || under.end < over.end));
                if (!covered || isCovered) {
                    bits |= 1 << bay;
                }
            }
        }
        return bits;
    }

    public int left(int batch) {
        isBatch(batch);
        return tinsLeft(batch);
    }

    public int caught(int from, int to, int known) {
        day(from, to, known);
        argument(to >= from);
        int lead = 0;
        for (Job job : known(known)) {
            if (from * 12 <= job.begin && job.begin < to * 12 + 12) {
                lead += tins(job.bay) * w.batches.get(job.batch)[1];
            }
        }
        return lead;
    }

    // Bare days and steel.

    private boolean isBare(int bay, int day, int known) {
        for (Job job : known(known)) {
            if (job.bay == bay) {
                int first = (job.end - 1) / 12;
                int behind = number(job.terms, spot(bay, job.begin), "holds", 30);
                boolean peeledAhead = job.peeled != NONE && job.peeled <= known && job.peeled <= day;
                if (first <= day && day - first <= behind && !peeledAhead) {
                    return false;
                }
            }
        }
        return true;
    }

    public int bare(int bay, int from, int to, int known) {
        isBay(bay);
        day(from, to, known);
        argument(to >= from);
        return count(from, to + 1, day -> isBare(bay, day, known));
    }

    private static int count(int from, int behind, IntPredicate is) {
        int count = 0;
        for (int i = from; i < behind; i++) {
            count += is.test(i) ? 1 : 0;
        }
        return count;
    }

    public void rust(int side, int least, int greatest) {
        index(side == 0 || side == 1);
        argument(0 <= least && least <= greatest && greatest <= 20);
        w.rust[side] = new int[] {least, greatest};
    }

    public int reading(int bay, int day, int steel) {
        isBay(bay);
        day(day);
        within(steel, 0, 500);
        room(w.readings.size() < 30);
        w.readings.add(new int[] {bay, day, steel, w.today});
        return w.readings.size() - 1;
    }

    private int steelOn(int bay, int day, int known, boolean most) {
        int[] from = null;
        for (int[] reading : w.readings) {
            if (reading[0] == bay && reading[1] <= day && reading[3] <= known
                    && (from == null || from[1] <= reading[1])) {
                from = reading;
            }
        }
        int steel = w.bays.get(bay)[3];
        if (from != null) {
            steel = Math.min(500, Math.max(0, from[2] + (most ? 2 : -2)));
        }
        int bare = count(from == null ? 0 : from[1], day, d -> isBare(bay, d, known));
        return Math.max(0, steel - bare * w.rust[w.bays.get(bay)[0]][most ? 0 : 1]);
    }

    public int steel(int bay, int day, int known, boolean most) {
        isBay(bay);
        day(day, known);
        return steelOn(bay, day, known, most);
    }

    public int below(int bay, int limit, int known) {
        isBay(bay);
        day(known);
        within(limit, 1, 500);
        for (int day = 0; day < 200; day++) {
            if (steelOn(bay, day, known, false) < limit) {
                return day;
            }
        }
        return NONE;
    }

    // Orders and puts.

    private static List<List<Integer>> orders(List<Integer> of) {
        List<List<Integer>> all = new ArrayList<>();
        if (of.isEmpty()) {
            all.add(new ArrayList<>());
        }
        for (Integer first : of) {
            List<Integer> rest = new ArrayList<>(of);
            rest.remove(first);
            for (List<Integer> order : orders(rest)) {
                order.add(0, first);
                all.add(order);
            }
        }
        return all;
    }

    private int orderEnd(int terms, int gang, List<Integer> order, int moment, Map<Integer, Integer> ends) {
        int end = moment;
        int before = order.get(0);
        for (int bay : order) {
            int from = end + Math.abs(bay - before);
            if (from >= 2400) {
                return NONE;
            }
            Integer found = ends.get(from * 8 + bay);
            if (found == null) {
                found = firstEnd(terms, bay, gang, from);
                ends.put(from * 8 + bay, found);
            }
            end = found;
            if (end == NONE) {
                return NONE;
            }
            before = bay;
        }
        return end;
    }

    private List<Integer> baysOf(int set) {
        List<Integer> bays = new ArrayList<>();
        for (int bay = 0; bay < w.bays.size(); bay++) {
            if ((set & 1 << bay) != 0) {
                bays.add(bay);
            }
        }
        return bays;
    }

    private void isSet(int set) {
        argument((set & -(1 << w.bays.size())) == 0);
    }

    public int order(int terms, int gang, int set, int moment, int what) {
        isTerms(terms);
        isGang(gang);
        isMoment(moment);
        isSet(set);
        List<Integer> bays = baysOf(set);
        argument(!bays.isEmpty() && bays.size() <= 6);
        what(what, 2);
        Map<Integer, Integer> ends = new HashMap<>();
        if (what == 1) {
            return orderEnd(terms, gang, bays, moment, ends);
        }
        int best = NONE;
        int first = NONE;
        for (List<Integer> order : orders(bays)) {
            int end = orderEnd(terms, gang, order, moment, ends);
            if (end != NONE && (best == NONE || end < best || end == best && order.get(0) < first)) {
                best = end;
                first = order.get(0);
            }
        }
        return what == 0 ? best : first;
    }

    public int put(int terms, int set, int moment, int bay) {
        isTerms(terms);
        isMoment(moment);
        if (bay != NONE) {
            isBay(bay);
        }
        isSet(set);
        List<Integer> bays = baysOf(set);
        int[] best = null;
        int least = NONE;
        Map<Integer, Integer> ends = new HashMap<>();
        for (List<Integer> order : orders(List.of(0, 1, 2, 3))) {
            int sum = 0;
            boolean is = bays.size() <= 4;
            int[] gangs = new int[Math.min(4, bays.size())];
            for (int i = 0; is && i < bays.size(); i++) {
                gangs[i] = order.get(i);
                is = gangs[i] < w.gangs.size();
                if (is) {
                    int key = bays.get(i) * 4 + gangs[i];
                    if (!ends.containsKey(key)) {
                        ends.put(key, firstEnd(terms, bays.get(i), gangs[i], moment));
                    }
                    sum += ends.get(key);
                    is = ends.get(key) != NONE;
                }
            }
            if (is && (best == null || sum < least || sum == least && java.util.Arrays.compare(gangs, best) < 0)) {
                best = gangs;
                least = sum;
            }
        }
        if (best == null || bay == NONE) {
            return least;
        }
        return bays.contains(bay) ? best[bays.indexOf(bay)] : NONE;
    }

    // Coin and years.

    public void cost(int bay, int one, int two) {
        isBay(bay);
        within(one, 0, 99);
        within(two, 0, 99);
        w.costs.set(bay, new int[] {0, one, two});
    }

    public void wear(int bay, int none, int one, int two) {
        isBay(bay);
        within(none, 0, 999);
        within(one, 0, 999);
        within(two, 0, 999);
        w.wears.set(bay, new int[] {none, one, two});
    }

    private int[] leastCoats(int from, int coin) {
        if (from == w.bays.size()) {
            return new int[1];
        }
        int[] best = null;
        for (int coats = 0; coats < 3; coats++) {
            int cost = w.costs.get(from)[coats];
            if (cost <= coin) {
                int[] later = leastCoats(from + 1, coin - cost);
                int wear = later[0] + w.wears.get(from)[coats];
                if (best == null || wear < best[0]) {
                    best = new int[later.length + 1];
                    best[0] = wear;
                    best[1] = coats;
                    System.arraycopy(later, 1, best, 2, later.length - 1);
                }
            }
        }
        return best;
    }

    public int spent(int coin, int bay) {
        if (bay != NONE) {
            isBay(bay);
        }
        within(coin, 0, 500);
        return leastCoats(0, coin)[bay + 1];
    }

    private static BigInteger failing(int years, int h, int hard) {
        BigInteger[] rows = new BigInteger[years + 2];
        java.util.Arrays.fill(rows, BigInteger.ZERO);
        rows[0] = BigInteger.ONE;
        for (int year = 0; year < years; year++) {
            for (int ones = year + 1; ones >= 0; ones--) {
                BigInteger hardOne = ones == 0 ? BigInteger.ZERO : rows[ones - 1].multiply(BigInteger.valueOf(h));
                rows[ones] = rows[ones].multiply(BigInteger.valueOf(4 - h)).add(hardOne);
            }
        }
        BigInteger sum = BigInteger.ZERO;
        for (int ones = hard; ones <= years; ones++) {
            sum = sum.add(rows[ones]);
        }
        return sum;
    }

    public long promise(int years, int h, int hard) {
        within(years, 1, 20);
        within(h, 0, 4);
        within(hard, 1, 20);
        return failing(years, h, hard).longValueExact();
    }

    public int edge(int years, int h, int hard, int always) {
        within(years, 1, 20);
        within(h, 0, 4);
        within(hard, 1, 20);
        within(always, 0, 999);
        BigInteger all = BigInteger.valueOf(4).pow(years);
        BigInteger each = all.add(failing(years, h, hard));
        BigInteger most = all.multiply(BigInteger.valueOf((long) years * always));
        int price = 0;
        while (price <= 9999 && each.multiply(BigInteger.valueOf(price + 1)).compareTo(most) <= 0) {
            price++;
        }
        return price > 9999 ? 99999 : price;
    }

    public int even(int years) {
        within(years, 1, 4);
        return leastGreatest(0, years);
    }

    private int leastGreatest(int from, int years) {
        int all = 0;
        for (int bay = from; bay < w.bays.size(); bay++) {
            all += w.bays.get(bay)[2];
        }
        if (years == 1) {
            return all;
        }
        int best = all;
        int sum = 0;
        for (int behind = from; behind < w.bays.size(); behind++) {
            best = Math.min(best, Math.max(sum, leastGreatest(behind, years - 1)));
            sum += w.bays.get(behind)[2];
        }
        return best;
    }

    // The rest.

    private int peeledOf(int gang, int known) {
        return (int) known(known).stream()
                .filter(job -> job.gang == gang && job.peeled != NONE && job.peeled <= known).count();
    }

    private int allOf(int gang, int known) {
        return (int) known(known).stream().filter(job -> job.gang == gang).count();
    }

    public int peels(int gang, int known, boolean all) {
        isGang(gang);
        day(known);
        return all ? allOf(gang, known) : peeledOf(gang, known);
    }

    public int worst(int known) {
        day(known);
        int worst = NONE;
        for (int gang = 0; gang < w.gangs.size(); gang++) {
            if (peeledOf(gang, known) > 0 && (worst == NONE
                    || peeledOf(gang, known) * allOf(worst, known) > peeledOf(worst, known) * allOf(gang, known))) {
                worst = gang;
            }
        }
        return worst;
    }

    public int risk(int job) {
        isJob(job);
        Job of = w.jobs.get(job);
        int sum = 0;
        for (int moment = of.begin; moment != of.end; moment++) {
            if (isOpen(of.terms, of.bay, moment)) {
                sum += spot(of.bay, moment).facts.get("wind") * w.bays.get(of.bay)[1];
            }
        }
        return sum;
    }

    public int match(int colour, int known) {
        day(known);
        within(colour, 0, 255);
        Optional<Integer> nearest = Optional.empty();
        for (int batch = w.batches.size() - 1; batch >= 0; batch--) {
            int[] row = w.batches.get(batch);
            boolean failed = row[3] != NONE && row[3] <= known;
            if (!failed && tinsLeft(batch) >= 1 && (nearest.isEmpty()
                    || Math.abs(row[2] - colour) <= Math.abs(w.batches.get(nearest.get())[2] - colour))) {
                nearest = Optional.of(batch);
            }
        }
        return nearest.orElse(NONE);
    }

    public int bolt(int bay, int day) {
        isBay(bay);
        day(day);
        if (w.bolts.size() >= 30) {
            return NONE;
        }
        w.bolts.add(new int[] {bay, day});
        return w.bolts.size();
    }

    public int finds(int bay, int from, int to) {
        isBay(bay);
        day(from, to);
        argument(to >= from);
        return (int) w.bolts.stream().filter(bolt -> bolt[0] == bay && from <= bolt[1] && bolt[1] <= to).count();
    }

    public int thick() {
        int[] counts = new int[8];
        for (int[] bolt : w.bolts) {
            counts[bolt[0]]++;
        }
        int thick = NONE;
        for (int bay = 7; bay >= 0; bay--) {
            if (counts[bay] > 0 && (thick == NONE || counts[bay] >= counts[thick])) {
                thick = bay;
            }
        }
        return thick;
    }

    public void image() {
        kept = w.copy();
    }

    public boolean back() {
        if (kept == null) {
            return false;
        }
        w = kept.copy();
        return true;
    }

    public int count(int what) {
        int[] counts = {w.bays.size(), w.texts.size(), w.gangs.size(), w.batches.size(), w.jobs.size(),
            w.readings.size(), w.bolts.size(), w.today, w.nests.size(), w.weather.size()};
        return what < 0 || what > 9 ? NONE : counts[what];
    }
}
