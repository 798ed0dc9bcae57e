import java.util.Arrays;
import java.util.NoSuchElementException;

/** A bridge that is painted from end to end and begun again. */
public final class BridgePaint {
    public static final int NONE = -1;

    private static final int DAYS = 200;
    private static final int HOURS = 12;
    private static final int MOMENTS = DAYS * HOURS;
    private static final int SIDES = 2;
    private static final int MOST_ORDERED = 6;
    private static final int MOST_COIN = 500;
    private static final int MOST_STEEL = 500;
    private static final int MOST_YEARS = 20;
    /** More than any end, wear or number together can come to. */
    private static final int FAR_ABOVE = 1000000000;

    private final State now;
    private final State kept;
    private final Tape tape;
    private final Reader reader;
    private final Place place;
    private final Works works;
    private final Past past;
    private final Purse purse;
    private boolean isKept;
    private int wrongByte;

    public BridgePaint() {
        State state = new State();
        Tape bytes = new Tape();
        Place judge = new Place(state);
        now = state;
        kept = new State();
        tape = bytes;
        reader = new Reader(bytes, state);
        place = judge;
        works = new Works(state, judge);
        past = new Past(state, judge);
        purse = new Purse(state);
        isKept = false;
        wrongByte = NONE;
    }

    public int feed(int a, int b, int c, int d, int e) {
        if (!tape.hasRoomFor(20)) {
            return NONE;
        }
        tape.add(a);
        tape.add(b);
        tape.add(c);
        tape.add(d);
        tape.add(e);
        return tape.length();
    }

    public boolean end(int n) {
        return tape.cut(n);
    }

    public int days(int n) throws IllegalArgumentException {
        needArgument(isIn(n, 0, DAYS - 1 - now.today));
        now.today += n;
        return now.today;
    }

    public int bay(int side, int height, int need, int steel)
            throws IllegalArgumentException, UnsupportedOperationException {
        needArgument(isIn(side, 0, SIDES - 1) && isIn(height, 0, 9));
        needArgument(isIn(need, 1, 20) && isIn(steel, 0, MOST_STEEL));
        needRoom(now.bays.hasRoom());
        int bay = now.bays.addRow();
        now.bays.set(bay, State.SIDE, side);
        now.bays.set(bay, State.HEIGHT, height);
        now.bays.set(bay, State.NEED, need);
        now.bays.set(bay, State.STEEL, steel);
        return bay;
    }

    public int weather(int fromDay, int toDay, int fromHour, int toHour, int wind, int heat)
            throws IndexOutOfBoundsException, IllegalArgumentException, UnsupportedOperationException {
        needDays(fromDay, toDay);
        needIndex(isIn(fromHour, 0, HOURS - 1) && isIn(toHour, 0, HOURS - 1));
        needArgument(fromDay <= toDay && fromHour <= toHour);
        needArgument(isIn(wind, -10, 9) && isIn(heat, 0, 30));
        needRoom(now.weather.hasRoom());
        int telling = now.weather.addRow();
        now.weather.set(telling, State.FROM, fromDay);
        now.weather.set(telling, State.TO, toDay);
        now.weather.set(telling, State.FROM_HOUR, fromHour);
        now.weather.set(telling, State.TO_HOUR, toHour);
        now.weather.set(telling, State.WET, wind < 0 ? 1 : 0);
        now.weather.set(telling, State.WIND, wind < 0 ? -1 - wind : wind);
        now.weather.set(telling, State.HEAT, heat);
        return telling;
    }

    public void trains(int hours) throws IllegalArgumentException {
        needArgument(isIn(hours, 0, (1 << HOURS) - 1));
        now.trainHours = hours;
    }

    public int span(boolean strike, int from, int to)
            throws IndexOutOfBoundsException, IllegalArgumentException, UnsupportedOperationException {
        needDays(from, to);
        needArgument(from <= to);
        Table spans = strike ? now.strikes : now.had;
        needRoom(spans.hasRoom());
        int row = spans.addRow();
        spans.set(row, State.FROM, from);
        spans.set(row, State.TO, to);
        return spans.size();
    }

    public int nest(int bay, int from, int to)
            throws IndexOutOfBoundsException, IllegalArgumentException, UnsupportedOperationException {
        needIndex(now.bays.has(bay));
        needDays(from, to);
        needArgument(from <= to);
        needRoom(now.nests.hasRoom());
        int row = now.nests.addRow();
        now.nests.set(row, State.FROM, from);
        now.nests.set(row, State.TO, to);
        now.nests.set(row, State.NEST_BAY, bay);
        return row;
    }

    public int terms() throws IllegalArgumentException, UnsupportedOperationException {
        int firstLine = now.lines.size();
        int firstCode = now.code.size();
        wrongByte = reader.readText();
        tape.cut(0);
        boolean isRight = wrongByte == NONE;
        boolean hasRoom = now.terms.hasRoom();
        if (!isRight || !hasRoom) {
            now.lines.cut(firstLine);
            now.code.cut(firstCode);
        }
        needArgument(isRight);
        needRoom(hasRoom);
        int row = now.terms.addRow();
        now.terms.set(row, State.FIRST_LINE, firstLine);
        now.terms.set(row, State.BEHIND_LINE, now.lines.size());
        return row;
    }

    public int fault() {
        return wrongByte;
    }

    public int why(int terms, int bay, int day, int hour) throws IndexOutOfBoundsException {
        needIndex(now.terms.has(terms) && now.bays.has(bay));
        needIndex(isIn(day, 0, DAYS - 1) && isIn(hour, 0, HOURS - 1));
        place.stand(bay, day * HOURS + hour);
        return place.whyHere(terms);
    }

    public int at(int terms, int bay, int day, int hour, int what)
            throws IndexOutOfBoundsException, NoSuchElementException {
        needIndex(now.terms.has(terms) && now.bays.has(bay));
        needIndex(isIn(day, 0, DAYS - 1) && isIn(hour, 0, HOURS - 1));
        needElement(isIn(what, 0, 7));
        place.stand(bay, day * HOURS + hour);
        return place.askedHere(terms, what);
    }

    public int hours(int terms, int bay, int from, int to, int what)
            throws IndexOutOfBoundsException, IllegalArgumentException, NoSuchElementException {
        needIndex(now.terms.has(terms) && now.bays.has(bay));
        needDays(from, to);
        needArgument(from <= to);
        needElement(isIn(what, 0, 3));
        int sum = 0;
        int behind = (to + 1) * HOURS;
        for (int moment = from * HOURS; moment < behind; moment++) {
            place.stand(bay, moment);
            sum += place.countHere(terms, what);
        }
        return sum;
    }

    public int gang(int skill) throws IllegalArgumentException, UnsupportedOperationException {
        needArgument(isIn(skill, 1, 5));
        needRoom(now.gangs.hasRoom());
        int gang = now.gangs.addRow();
        now.gangs.set(gang, State.SKILL, skill);
        return gang;
    }

    public int batch(int tins, int lead, int colour)
            throws IllegalArgumentException, UnsupportedOperationException {
        needArgument(isIn(tins, 0, 99) && isIn(lead, 0, 50) && isIn(colour, 0, 255));
        needRoom(now.batches.hasRoom());
        int batch = now.batches.addRow();
        now.batches.set(batch, State.TINS, tins);
        now.batches.set(batch, State.LEAD, lead);
        now.batches.set(batch, State.COLOUR, colour);
        now.batches.set(batch, State.FAILED, NONE);
        return batch;
    }

    public int ends(int terms, int bay, int gang, int moment) throws IndexOutOfBoundsException {
        needIndex(now.terms.has(terms) && now.bays.has(bay) && now.gangs.has(gang));
        needIndex(isIn(moment, 0, MOMENTS - 1));
        works.begin(terms, 0);
        return works.workEnd(bay, gang, moment);
    }

    public boolean may(int bay, int moment) throws IndexOutOfBoundsException {
        needIndex(now.bays.has(bay) && isIn(moment, 0, MOMENTS - 1));
        works.measureDry(1 << bay);
        return works.blockedTo(bay, moment) == NONE;
    }

    public int job(int terms, int bay, int gang, int batch, int moment)
            throws IndexOutOfBoundsException, UnsupportedOperationException {
        needIndex(now.terms.has(terms) && now.bays.has(bay) && now.gangs.has(gang));
        needIndex(now.batches.has(batch) && isIn(moment, 0, MOMENTS - 1));
        needRoom(now.jobs.hasRoom());
        if (now.tinsFor(bay) > now.tinsLeft(batch)) {
            return NONE;
        }
        works.begin(terms, 1 << bay);
        if (works.blockedTo(bay, moment) != NONE) {
            return NONE;
        }
        int end = works.workEnd(bay, gang, moment);
        if (end == NONE) {
            return NONE;
        }
        int job = now.jobs.addRow();
        now.jobs.set(job, State.JOB_BAY, bay);
        now.jobs.set(job, State.JOB_GANG, gang);
        now.jobs.set(job, State.JOB_BATCH, batch);
        now.jobs.set(job, State.BEGIN, moment);
        now.jobs.set(job, State.END, end);
        now.jobs.set(job, State.TOLD, now.today);
        now.jobs.set(job, State.PEELED, NONE);
        now.jobs.set(job, State.JOB_TERMS, terms);
        return job;
    }

    public int look(int job, int what) throws IndexOutOfBoundsException, NoSuchElementException {
        needIndex(now.jobs.has(job));
        needElement(isIn(what, 0, State.JOB_COLUMNS - 1));
        return now.jobs.get(job, what);
    }

    public boolean peel(int job) throws IndexOutOfBoundsException {
        needIndex(now.jobs.has(job));
        if (now.jobs.get(job, State.PEELED) != NONE) {
            return false;
        }
        now.jobs.set(job, State.PEELED, now.today);
        return true;
    }

    public boolean fail(int batch) throws IndexOutOfBoundsException {
        needIndex(now.batches.has(batch));
        if (now.batches.get(batch, State.FAILED) != NONE) {
            return false;
        }
        now.batches.set(batch, State.FAILED, now.today);
        return true;
    }

    public int last(int bay, int day, int known) throws IndexOutOfBoundsException {
        needIndex(now.bays.has(bay));
        needDays(day, known);
        return past.lastJob(bay, day, known);
    }

    public int recall(int batch, int known, boolean covered) throws IndexOutOfBoundsException {
        needIndex(now.batches.has(batch) && isIn(known, 0, DAYS - 1));
        return past.recalled(batch, known, covered);
    }

    public int left(int batch) throws IndexOutOfBoundsException {
        needIndex(now.batches.has(batch));
        return now.tinsLeft(batch);
    }

    public int caught(int from, int to, int known)
            throws IndexOutOfBoundsException, IllegalArgumentException {
        needDays(from, to);
        needIndex(isIn(known, 0, DAYS - 1));
        needArgument(from <= to);
        return past.leadCaught(from, to, known);
    }

    public int bare(int bay, int from, int to, int known)
            throws IndexOutOfBoundsException, IllegalArgumentException {
        needIndex(now.bays.has(bay) && isIn(known, 0, DAYS - 1));
        needDays(from, to);
        needArgument(from <= to);
        past.measureBare(bay, known);
        return past.bareDays(from, to);
    }

    public void rust(int side, int least, int greatest)
            throws IndexOutOfBoundsException, IllegalArgumentException {
        needIndex(isIn(side, 0, SIDES - 1));
        needArgument(least >= 0 && least <= greatest && greatest <= 20);
        now.losses.set(side, State.LEAST, least);
        now.losses.set(side, State.GREATEST, greatest);
    }

    public int reading(int bay, int day, int steel)
            throws IndexOutOfBoundsException, IllegalArgumentException, UnsupportedOperationException {
        needIndex(now.bays.has(bay) && isIn(day, 0, DAYS - 1));
        needArgument(isIn(steel, 0, MOST_STEEL));
        needRoom(now.readings.hasRoom());
        int reading = now.readings.addRow();
        now.readings.set(reading, State.READ_BAY, bay);
        now.readings.set(reading, State.READ_DAY, day);
        now.readings.set(reading, State.READ_STEEL, steel);
        now.readings.set(reading, State.READ_TOLD, now.today);
        return reading;
    }

    public int steel(int bay, int day, int known, boolean most) throws IndexOutOfBoundsException {
        needIndex(now.bays.has(bay));
        needDays(day, known);
        past.measureBare(bay, known);
        return past.steelOn(bay, day, known, most);
    }

    public int below(int bay, int limit, int known)
            throws IndexOutOfBoundsException, IllegalArgumentException {
        needIndex(now.bays.has(bay) && isIn(known, 0, DAYS - 1));
        needArgument(isIn(limit, 1, MOST_STEEL));
        past.measureBare(bay, known);
        return past.firstBelow(bay, limit, known);
    }

    public int order(int terms, int gang, int set, int moment, int what)
            throws IndexOutOfBoundsException, IllegalArgumentException, NoSuchElementException {
        needIndex(now.terms.has(terms) && now.gangs.has(gang));
        needIndex(isIn(moment, 0, MOMENTS - 1));
        needArgument(isIn(set, 1, now.baySet()) && Integer.bitCount(set) <= MOST_ORDERED);
        needElement(isIn(what, 0, 2));
        works.begin(terms, set);
        if (what == 1) {
            return works.walkedEnd(gang, set, moment);
        }
        return works.bestOrder(gang, set, moment, what == 2);
    }

    public int put(int terms, int set, int moment, int bay)
            throws IndexOutOfBoundsException, IllegalArgumentException {
        needIndex(now.terms.has(terms) && isIn(moment, 0, MOMENTS - 1));
        needIndex(bay == NONE || now.bays.has(bay));
        needArgument(isIn(set, 0, now.baySet()));
        works.begin(terms, set);
        return works.putGangs(set, moment, bay);
    }

    public void cost(int bay, int one, int two)
            throws IndexOutOfBoundsException, IllegalArgumentException {
        needIndex(now.bays.has(bay));
        needArgument(isIn(one, 0, 99) && isIn(two, 0, 99));
        now.bays.set(bay, State.COST + 1, one);
        now.bays.set(bay, State.COST + 2, two);
    }

    public void wear(int bay, int none, int one, int two)
            throws IndexOutOfBoundsException, IllegalArgumentException {
        needIndex(now.bays.has(bay));
        needArgument(isIn(none, 0, 999) && isIn(one, 0, 999) && isIn(two, 0, 999));
        now.bays.set(bay, State.WEAR, none);
        now.bays.set(bay, State.WEAR + 1, one);
        now.bays.set(bay, State.WEAR + 2, two);
    }

    public int spent(int coin, int bay) throws IndexOutOfBoundsException, IllegalArgumentException {
        needIndex(bay == NONE || now.bays.has(bay));
        needArgument(isIn(coin, 0, MOST_COIN));
        return purse.coatsFor(coin, bay);
    }

    public long promise(int years, int h, int hard) throws IllegalArgumentException {
        needWinters(years, h, hard);
        return purse.rowsFailed(years, h, hard);
    }

    public int edge(int years, int h, int hard, int always) throws IllegalArgumentException {
        needWinters(years, h, hard);
        needArgument(isIn(always, 0, 999));
        return purse.greatestPrice(years, h, hard, always);
    }

    public int even(int years) throws IllegalArgumentException {
        needArgument(isIn(years, 1, 4));
        return purse.evenNeed(years);
    }

    public int peels(int gang, int known, boolean all) throws IndexOutOfBoundsException {
        needIndex(now.gangs.has(gang) && isIn(known, 0, DAYS - 1));
        return past.jobsOf(gang, known, !all);
    }

    public int worst(int known) throws IndexOutOfBoundsException {
        needIndex(isIn(known, 0, DAYS - 1));
        return past.worstGang(known);
    }

    public int risk(int job) throws IndexOutOfBoundsException {
        needIndex(now.jobs.has(job));
        return past.riskOf(job);
    }

    public int match(int colour, int known) throws IndexOutOfBoundsException, IllegalArgumentException {
        needIndex(isIn(known, 0, DAYS - 1));
        needArgument(isIn(colour, 0, 255));
        return past.nearestBatch(colour, known);
    }

    public int bolt(int bay, int day) throws IndexOutOfBoundsException {
        needIndex(now.bays.has(bay) && isIn(day, 0, DAYS - 1));
        if (!now.bolts.hasRoom()) {
            return NONE;
        }
        int row = now.bolts.addRow();
        now.bolts.set(row, State.BOLT_BAY, bay);
        now.bolts.set(row, State.BOLT_DAY, day);
        return now.bolts.size();
    }

    public int finds(int bay, int from, int to) throws IndexOutOfBoundsException, IllegalArgumentException {
        needIndex(now.bays.has(bay));
        needDays(from, to);
        needArgument(from <= to);
        return past.boltsFound(bay, from, to);
    }

    public int thick() {
        return past.boltedMost();
    }

    public void image() {
        kept.copyFrom(now);
        isKept = true;
    }

    public boolean back() {
        if (!isKept) {
            return false;
        }
        now.copyFrom(kept);
        return true;
    }

    public int count(int what) {
        switch (what) {
            case 0: return now.bays.size();
            case 1: return now.terms.size();
            case 2: return now.gangs.size();
            case 3: return now.batches.size();
            case 4: return now.jobs.size();
            case 5: return now.readings.size();
            case 6: return now.bolts.size();
            case 7: return now.today;
            case 8: return now.nests.size();
            case 9: return now.weather.size();
            default: return NONE;
        }
    }

    private static boolean isIn(int number, int least, int greatest) {
        return number >= least && number <= greatest;
    }

    private static void needDays(int one, int other) {
        needIndex(isIn(one, 0, DAYS - 1) && isIn(other, 0, DAYS - 1));
    }

    private static void needWinters(int years, int h, int hard) {
        needArgument(isIn(years, 1, MOST_YEARS) && isIn(h, 0, 4) && isIn(hard, 1, MOST_YEARS));
    }

    private static void needIndex(boolean is) {
        if (!is) {
            throw new IndexOutOfBoundsException();
        }
    }

    private static void needArgument(boolean is) {
        if (!is) {
            throw new IllegalArgumentException();
        }
    }

    private static void needRoom(boolean is) {
        if (!is) {
            throw new UnsupportedOperationException();
        }
    }

    private static void needElement(boolean is) {
        if (!is) {
            throw new NoSuchElementException();
        }
    }

    /** Rows of numbers up to a limit; a row or a column that is not there reads as 0. */
    private static final class Table {
        private final int limit;
        private final int columns;
        private final int[] cells;
        private int rows;

        Table(int limit, int columns) {
            int length = limit * columns;
            this.limit = limit;
            this.columns = columns;
            cells = new int[length > 0 ? length : 0];
            rows = 0;
        }

        int size() {
            return rows;
        }

        boolean has(int row) {
            return row >= 0 && row < rows;
        }

        boolean hasRoom() {
            return rows < limit;
        }

        /** The number of a new row of zeros; NONE if the table is full. */
        int addRow() {
            if (rows >= limit) {
                return NONE;
            }
            int row = rows;
            rows = row + 1;
            for (int at = row * columns; at < rows * columns && at < cells.length; at++) {
                cells[at] = 0;
            }
            return row;
        }

        /** Later rows than the first ones are forgotten. */
        void cut(int first) {
            if (first >= 0 && first < rows) {
                rows = first;
            }
        }

        int get(int row, int column) {
            int at = row * columns + column;
            if (row < 0 || row >= rows || column < 0 || column >= columns || at >= cells.length) {
                return 0;
            }
            return cells[at];
        }

        void set(int row, int column, int number) {
            int at = row * columns + column;
            if (row < 0 || row >= rows || column < 0 || column >= columns || at >= cells.length) {
                return;
            }
            cells[at] = number;
        }

        /** Whether the row's first two columns have the day between them. */
        boolean isSpanned(int row, int day) {
            int at = row * columns;
            if (row < 0 || row >= rows || columns < 2 || at + 1 >= cells.length) {
                return false;
            }
            return day >= cells[at] && day <= cells[at + 1];
        }

        boolean isSpannedByAny(int day) {
            for (int row = 0; row < rows; row++) {
                if (isSpanned(row, day)) {
                    return true;
                }
            }
            return false;
        }

        void copyFrom(Table other) {
            int length = other.rows * other.columns;
            if (length < 0 || length > cells.length || length > other.cells.length) {
                return;
            }
            System.arraycopy(other.cells, 0, cells, 0, length);
            rows = other.rows;
        }
    }

    /** Bytes that wait to be read as a text. */
    private static final class Tape {
        static final int LIMIT = 400;

        private final int[] bytes;
        private int length;

        Tape() {
            bytes = new int[LIMIT];
            length = 0;
        }

        int length() {
            return length;
        }

        boolean hasRoomFor(int more) {
            return length + more <= LIMIT;
        }

        /** Four bytes come, the highest first. */
        void add(int number) {
            for (int shift = 24; shift >= 0; shift -= 8) {
                if (length >= 0 && length < bytes.length) {
                    bytes[length] = number >>> shift & 255;
                    length++;
                }
            }
        }

        int byteAt(int at) {
            return at >= 0 && at < length && at < bytes.length ? bytes[at] : NONE;
        }

        boolean cut(int first) {
            if (first < 0 || first > length) {
                return false;
            }
            length = first;
            return true;
        }
    }

    /** All that an image keeps. */
    private static final class State {
        static final int SIDE = 0;
        static final int HEIGHT = 1;
        static final int NEED = 2;
        static final int STEEL = 3;
        static final int COST = 4;
        static final int WEAR = 7;
        static final int BAY_COLUMNS = 10;

        static final int FROM = 0;
        static final int TO = 1;

        static final int FROM_HOUR = 2;
        static final int TO_HOUR = 3;
        static final int WET = 4;
        static final int WIND = 5;
        static final int HEAT = 6;
        static final int WEATHER_COLUMNS = 7;

        static final int NEST_BAY = 2;
        static final int NEST_COLUMNS = 3;

        static final int FIRST_LINE = 0;
        static final int BEHIND_LINE = 1;

        static final int KIND = 0;
        static final int NUMBER = 1;
        static final int FIRST_CODE = 2;
        static final int BEHIND_CODE = 3;
        static final int LINE_COLUMNS = 4;

        static final int SKILL = 0;

        static final int TINS = 0;
        static final int LEAD = 1;
        static final int COLOUR = 2;
        static final int FAILED = 3;
        static final int BATCH_COLUMNS = 4;

        static final int JOB_BAY = 0;
        static final int JOB_GANG = 1;
        static final int JOB_BATCH = 2;
        static final int BEGIN = 3;
        static final int END = 4;
        static final int TOLD = 5;
        static final int PEELED = 6;
        static final int JOB_TERMS = 7;
        static final int JOB_COLUMNS = 8;

        static final int LEAST = 0;
        static final int GREATEST = 1;

        static final int READ_BAY = 0;
        static final int READ_DAY = 1;
        static final int READ_STEEL = 2;
        static final int READ_TOLD = 3;
        static final int READ_COLUMNS = 4;

        static final int BOLT_BAY = 0;
        static final int BOLT_DAY = 1;

        static final int MOST_BAYS = 8;
        static final int MOST_TERMS = 3;
        static final int MOST_GANGS = 4;
        static final int MOST_JOBS = 40;

        final Table bays;
        final Table weather;
        final Table had;
        final Table strikes;
        final Table nests;
        final Table terms;
        final Table lines;
        final Table code;
        final Table gangs;
        final Table batches;
        final Table jobs;
        final Table losses;
        final Table readings;
        final Table bolts;
        int today;
        int trainHours;

        State() {
            Table rust = new Table(SIDES, 2);
            for (int side = 0; side < SIDES; side++) {
                rust.addRow();
                rust.set(side, LEAST, 1);
                rust.set(side, GREATEST, 2);
            }
            bays = new Table(MOST_BAYS, BAY_COLUMNS);
            weather = new Table(30, WEATHER_COLUMNS);
            had = new Table(6, 2);
            strikes = new Table(5, 2);
            nests = new Table(8, NEST_COLUMNS);
            terms = new Table(MOST_TERMS, 2);
            // A text is read before it is refused, so there is room for one more.
            lines = new Table((MOST_TERMS + 1) * Reader.MOST_LINES, LINE_COLUMNS);
            code = new Table((MOST_TERMS + 1) * Tape.LIMIT, 1);
            gangs = new Table(MOST_GANGS, 1);
            batches = new Table(6, BATCH_COLUMNS);
            jobs = new Table(MOST_JOBS, JOB_COLUMNS);
            losses = rust;
            readings = new Table(30, READ_COLUMNS);
            bolts = new Table(30, 2);
            today = 0;
            trainHours = 0;
        }

        void copyFrom(State other) {
            bays.copyFrom(other.bays);
            weather.copyFrom(other.weather);
            had.copyFrom(other.had);
            strikes.copyFrom(other.strikes);
            nests.copyFrom(other.nests);
            terms.copyFrom(other.terms);
            lines.copyFrom(other.lines);
            code.copyFrom(other.code);
            gangs.copyFrom(other.gangs);
            batches.copyFrom(other.batches);
            jobs.copyFrom(other.jobs);
            losses.copyFrom(other.losses);
            readings.copyFrom(other.readings);
            bolts.copyFrom(other.bolts);
            today = other.today;
            trainHours = other.trainHours;
        }

        /** The set of all bays, as bits. */
        int baySet() {
            return (1 << bays.size()) - 1;
        }

        int tinsFor(int bay) {
            return (bays.get(bay, NEED) + 3) / 4;
        }

        int tinsLeft(int batch) {
            int tins = batches.get(batch, TINS);
            for (int job = 0; job < jobs.size(); job++) {
                if (jobs.get(job, JOB_BATCH) == batch) {
                    tins -= tinsFor(jobs.get(job, JOB_BAY));
                }
            }
            return tins;
        }

        boolean isKnown(int job, int known) {
            return jobs.get(job, TOLD) <= known;
        }

        boolean isPeeled(int job, int known) {
            int day = jobs.get(job, PEELED);
            return day != NONE && day <= known;
        }
    }

    /** What the words and signs of a text are: 0 to 99 are numbers, then the words by their order in ALL. */
    private static final class Word {
        static final String ALL =
                "stop dry holds pay if or and not wet train nest day hour wind heat height side ";
        static final String SIGNS = "();+<>";

        static final int STOP = 100;
        static final int DRY = 101;
        static final int HOLDS = 102;
        static final int PAY = 103;
        static final int IF = 104;
        static final int OR = 105;
        static final int AND = 106;
        static final int NOT = 107;
        static final int WET = 108;
        static final int TRAIN = 109;
        static final int NEST = 110;
        static final int DAY = 111;
        static final int HOUR = 112;
        static final int WIND = 113;
        static final int HEAT = 114;
        static final int HEIGHT = 115;
        static final int SIDE = 116;

        static final int OPENING = 120;
        static final int CLOSING = 121;
        static final int SEMICOLON = 122;
        static final int PLUS = 123;
        static final int LESS = 124;
        static final int MORE = 125;

        static final int ENDED = 130;
        static final int NOTHING = 131;
        /** In code alone: the first sum is over, the second one begins. */
        static final int SPLIT = 132;

        static boolean isTag(int word) {
            return word >= WET && word <= NEST;
        }

        static boolean isFact(int word) {
            return word >= DAY && word <= SIDE;
        }

        static boolean isNumber(int word) {
            return word >= 0 && word < STOP;
        }
    }

    /** Reads a text into lines and code: each condition becomes code in which what acts stands behind its parts. */
    private static final class Reader {
        static final int MOST_LINES = 10;
        private static final int MOST_DEEP = 6;
        private static final int MOST_DRY = 48;
        // Of ( and not six can wait at once, and at each of the seven depths one AND and one OR: 20.
        private static final int MOST_WAITING = 3 * (MOST_DEEP + 1);

        private final Tape tape;
        private final State state;
        private final int[] words;
        private final int[] begins;
        private final int[] waiting;
        private int wordCount;
        private int waitingCount;
        private int deep;
        private int next;
        private int word;
        private int begin;

        Reader(Tape tape, State state) {
            this.tape = tape;
            this.state = state;
            words = new int[Tape.LIMIT + 1];
            begins = new int[Tape.LIMIT + 1];
            waiting = new int[MOST_WAITING];
        }

        /** The first wrong byte of the text on the tape; NONE, and its lines and code are added, if there is none. */
        int readText() {
            splitWords();
            next = 0;
            step();
            if (word == Word.ENDED) {
                return NONE;
            }
            for (int line = 0; line < MOST_LINES; line++) {
                if (!readLine()) {
                    return begin;
                }
                if (word == Word.ENDED) {
                    return NONE;
                }
                if (word != Word.SEMICOLON) {
                    return begin;
                }
                step();
            }
            return begin;
        }

        private void splitWords() {
            wordCount = 0;
            int at = 0;
            while (at < tape.length()) {
                int length = 1;
                int sign = tape.byteAt(at);
                if (isLetter(sign)) {
                    length = runOf(at, true);
                    addWord(wordOf(at, length), at);
                } else if (isDigit(sign)) {
                    length = runOf(at, false);
                    addWord(numberOf(at, length), at);
                } else if (sign != ' ') {
                    addWord(signOf(sign), at);
                }
                at += Math.max(length, 1);
            }
            addWord(Word.ENDED, tape.length());
        }

        private void addWord(int kind, int at) {
            if (wordCount >= 0 && wordCount < words.length && wordCount < begins.length) {
                words[wordCount] = kind;
                begins[wordCount] = at;
                wordCount++;
            }
        }

        private static boolean isLetter(int sign) {
            return sign >= 'a' && sign <= 'z';
        }

        private static boolean isDigit(int sign) {
            return sign >= '0' && sign <= '9';
        }

        /** How many letters, or digits, stand one behind another; 1 at least. */
        private int runOf(int from, boolean letters) {
            int at = from + 1;
            while (at < tape.length() && (letters ? isLetter(tape.byteAt(at)) : isDigit(tape.byteAt(at)))) {
                at++;
            }
            return at - from;
        }

        private int wordOf(int from, int length) {
            int number = Word.STOP;
            int first = 0;
            for (int at = 0; at < Word.ALL.length(); at++) {
                if (Word.ALL.charAt(at) == ' ') {
                    if (at - first == length && isSame(from, first, length)) {
                        return number;
                    }
                    number++;
                    first = at + 1;
                }
            }
            return Word.NOTHING;
        }

        private boolean isSame(int from, int first, int length) {
            for (int i = 0; i < length; i++) {
                int at = first + i;
                if (at < 0 || at >= Word.ALL.length() || Word.ALL.charAt(at) != tape.byteAt(from + i)) {
                    return false;
                }
            }
            return true;
        }

        private int numberOf(int from, int length) {
            int first = tape.byteAt(from) - '0';
            if (length == 1) {
                return first;
            }
            return length == 2 ? first * 10 + tape.byteAt(from + 1) - '0' : Word.NOTHING;
        }

        private static int signOf(int sign) {
            for (int i = 0; i < Word.SIGNS.length(); i++) {
                if (Word.SIGNS.charAt(i) == sign) {
                    return Word.OPENING + i;
                }
            }
            return Word.NOTHING;
        }

        private void step() {
            if (next >= 0 && next < wordCount && next < words.length && next < begins.length) {
                word = words[next];
                begin = begins[next];
                next++;
            }
        }

        private boolean readLine() {
            int kind = word;
            int number = 0;
            if (kind < Word.STOP || kind > Word.PAY) {
                return false;
            }
            step();
            if (kind != Word.STOP) {
                if (!Word.isNumber(word) || kind == Word.DRY && word > MOST_DRY) {
                    return false;
                }
                number = word;
                step();
            }
            int firstCode = state.code.size();
            if (word == Word.IF) {
                step();
                if (!readCondition()) {
                    return false;
                }
            } else if (kind == Word.STOP) {
                return false;
            }
            int line = state.lines.addRow();
            state.lines.set(line, State.KIND, kind);
            state.lines.set(line, State.NUMBER, number);
            state.lines.set(line, State.FIRST_CODE, firstCode);
            state.lines.set(line, State.BEHIND_CODE, state.code.size());
            return true;
        }

        private boolean readCondition() {
            waitingCount = 0;
            deep = 0;
            boolean isMore = true;
            for (int turn = 0; turn <= Tape.LIMIT && isMore; turn++) {
                if (!readAtom()) {
                    return false;
                }
                closeParts();
                isMore = word == Word.AND || word == Word.OR;
                if (isMore) {
                    writeWaiting(word);
                    addWaiting(word);
                    step();
                }
            }
            writeWaiting(Word.OR);
            return waitingCount == 0;
        }

        /** Reads ( and not as they come, and the tag or the comparison behind them. */
        private boolean readAtom() {
            while (deep < MOST_DEEP && (word == Word.NOT || word == Word.OPENING)) {
                deep++;
                addWaiting(word);
                step();
            }
            if (Word.isTag(word)) {
                write(word);
                step();
                return true;
            }
            return readComparison();
        }

        private boolean readComparison() {
            int sign = NONE;
            for (int turn = 0; turn <= Tape.LIMIT; turn++) {
                if (!Word.isNumber(word) && !Word.isFact(word)) {
                    return false;
                }
                write(word);
                step();
                if (word == Word.PLUS) {
                    step();
                } else if (sign != NONE) {
                    write(sign);
                    return true;
                } else if (word == Word.LESS || word == Word.MORE) {
                    sign = word;
                    write(Word.SPLIT);
                    step();
                } else {
                    return false;
                }
            }
            return false;
        }

        /** Behind an atom: the not ahead of it are over, and so are ( with a ) here, which make an atom again. */
        private void closeParts() {
            for (int turn = 0; turn <= MOST_WAITING; turn++) {
                if (lastWaiting() == Word.NOT) {
                    write(Word.NOT);
                    waitingCount--;
                    deep--;
                } else if (word == Word.CLOSING && hasOpening()) {
                    writeWaiting(Word.OR);
                    waitingCount--;
                    deep--;
                    step();
                } else {
                    return;
                }
            }
        }

        private boolean hasOpening() {
            for (int i = 0; i < waitingCount && i < waiting.length; i++) {
                if (waiting[i] == Word.OPENING) {
                    return true;
                }
            }
            return false;
        }

        /** Writes what waits and binds as tightly as the word told, or tighter: and ahead of or. */
        private void writeWaiting(int than) {
            for (int turn = 0; turn <= MOST_WAITING; turn++) {
                int last = lastWaiting();
                if (last != Word.AND && (last != Word.OR || than != Word.OR)) {
                    return;
                }
                write(last);
                waitingCount--;
            }
        }

        private void addWaiting(int part) {
            if (waitingCount >= 0 && waitingCount < waiting.length) {
                waiting[waitingCount] = part;
                waitingCount++;
            }
        }

        private int lastWaiting() {
            int at = waitingCount - 1;
            return at >= 0 && at < waiting.length ? waiting[at] : NONE;
        }

        private void write(int part) {
            state.code.set(state.code.addRow(), 0, part);
        }
    }

    /** A bay at a moment: what is so there, and what terms say of it. */
    private static final class Place {
        private final State state;
        private boolean isStruck;
        private int wet;
        private int train;
        private int nested;
        private int day;
        private int hour;
        private int wind;
        private int heat;
        private int height;
        private int side;

        Place(State state) {
            this.state = state;
        }

        void stand(int bay, int moment) {
            day = moment / HOURS;
            hour = moment % HOURS;
            height = state.bays.get(bay, State.HEIGHT);
            side = state.bays.get(bay, State.SIDE);
            isStruck = state.strikes.isSpannedByAny(day);
            boolean isTrainHour = (state.trainHours >> hour & 1) == 1;
            train = isTrainHour && !state.had.isSpannedByAny(day) ? 1 : 0;
            nested = hasNest(bay) ? 1 : 0;
            feelWeather();
        }

        private boolean hasNest(int bay) {
            Table nests = state.nests;
            for (int row = 0; row < nests.size(); row++) {
                if (nests.get(row, State.NEST_BAY) == bay && nests.isSpanned(row, day)) {
                    return true;
                }
            }
            return false;
        }

        private void feelWeather() {
            Table weather = state.weather;
            for (int row = weather.size() - 1; row >= 0; row--) {
                boolean isHour = hour >= weather.get(row, State.FROM_HOUR) && hour <= weather.get(row, State.TO_HOUR);
                if (isHour && weather.isSpanned(row, day)) {
                    wet = weather.get(row, State.WET);
                    wind = weather.get(row, State.WIND);
                    heat = weather.get(row, State.HEAT);
                    return;
                }
            }
            wet = 0;
            wind = 0;
            heat = 10;
        }

        int whyHere(int terms) {
            if (isStruck) {
                return 1;
            }
            int first = state.terms.get(terms, State.FIRST_LINE);
            int behind = state.terms.get(terms, State.BEHIND_LINE);
            for (int line = first; line < behind; line++) {
                if (state.lines.get(line, State.KIND) == Word.STOP && holdsHere(line)) {
                    return 2 + line - first;
                }
            }
            return 0;
        }

        /** The number of the last line of a kind that holds here, or else the one told. */
        int numberHere(int terms, int kind, int without) {
            int first = state.terms.get(terms, State.FIRST_LINE);
            for (int line = state.terms.get(terms, State.BEHIND_LINE) - 1; line >= first; line--) {
                if (state.lines.get(line, State.KIND) == kind && holdsHere(line)) {
                    return state.lines.get(line, State.NUMBER);
                }
            }
            return without;
        }

        int dryHere(int terms) {
            return numberHere(terms, Word.DRY, 0);
        }

        int holdHere(int terms) {
            return numberHere(terms, Word.HOLDS, 30);
        }

        int payHere(int terms) {
            return numberHere(terms, Word.PAY, 0);
        }

        private boolean isLost(int terms) {
            if (train == 0 || whyHere(terms) == 0) {
                return false;
            }
            train = 0;
            boolean isOpenWithout = whyHere(terms) == 0;
            train = 1;
            return isOpenWithout;
        }

        int countHere(int terms, int what) {
            switch (what) {
                case 0: return whyHere(terms) == 0 ? 1 : 0;
                case 1: return whyHere(terms) == 0 ? 0 : 1;
                case 2: return isLost(terms) ? 1 : 0;
                default: return isLost(terms) ? payHere(terms) : 0;
            }
        }

        int askedHere(int terms, int what) {
            switch (what) {
                case 0: return dryHere(terms);
                case 1: return holdHere(terms);
                case 2: return payHere(terms);
                case 3: return wind;
                case 4: return heat;
                case 5: return wet;
                case 6: return train;
                default: return nested;
            }
        }

        /** Wind times height, the risk of working here. */
        int windAtHeight() {
            return wind * height;
        }

        /** The truths that wait are the bits of one number, the latest one lowest. */
        private boolean holdsHere(int line) {
            int behind = state.lines.get(line, State.BEHIND_CODE);
            int truths = 1;
            int left = 0;
            int sum = 0;
            for (int at = state.lines.get(line, State.FIRST_CODE); at < behind; at++) {
                int part = state.code.get(at, 0);
                if (Word.isNumber(part)) {
                    sum += part;
                } else if (Word.isFact(part)) {
                    sum += factHere(part);
                } else if (Word.isTag(part)) {
                    truths = truths << 1 | factHere(part);
                } else if (part == Word.SPLIT) {
                    left = sum;
                    sum = 0;
                } else if (part == Word.LESS || part == Word.MORE) {
                    boolean is = part == Word.LESS ? left < sum : left > sum;
                    truths = truths << 1 | (is ? 1 : 0);
                    sum = 0;
                } else {
                    truths = joined(truths, part);
                }
            }
            return (truths & 1) == 1;
        }

        private static int joined(int truths, int part) {
            switch (part) {
                case Word.NOT: return truths ^ 1;
                case Word.AND: return truths >> 1 & (truths | ~1);
                case Word.OR: return truths >> 1 | truths & 1;
                default: return truths;
            }
        }

        private int factHere(int word) {
            switch (word) {
                case Word.WET: return wet;
                case Word.TRAIN: return train;
                case Word.NEST: return nested;
                case Word.DAY: return day;
                case Word.HOUR: return hour;
                case Word.WIND: return wind;
                case Word.HEAT: return heat;
                case Word.HEIGHT: return height;
                case Word.SIDE: return side;
                default: return 0;
            }
        }
    }

    /** Works by one terms: from when on they may begin, and when they end. */
    private static final class Works {
        private static final int BEHIND_ALL = MOMENTS + 1;

        private final State state;
        private final Place place;
        /** By moment: which bays were looked at there (8 bits), and which of them are open (8 bits above). */
        private final int[] looks;
        private final int[] freeFrom;
        private final int[] putEnds;
        private int terms;

        Works(State state, Place place) {
            this.state = state;
            this.place = place;
            looks = new int[MOMENTS];
            freeFrom = new int[State.MOST_JOBS];
            putEnds = new int[State.MOST_GANGS * State.MOST_GANGS];
        }

        /** To be called ahead of all else: what was looked at in an earlier call may have changed. */
        void begin(int byTerms, int set) {
            terms = byTerms;
            Arrays.fill(looks, 0);
            measureDry(set);
        }

        /** From when on a coat on the bays of a set is dry, by job. */
        void measureDry(int set) {
            Table jobs = state.jobs;
            for (int job = 0; job < jobs.size() && job < freeFrom.length; job++) {
                int bay = jobs.get(job, State.JOB_BAY);
                if ((set >> bay & 1) == 1) {
                    int end = jobs.get(job, State.END);
                    place.stand(bay, end - 1);
                    freeFrom[job] = end + place.dryHere(jobs.get(job, State.JOB_TERMS));
                }
            }
        }

        /** The moment to which jobs at a bay hinder one from beginning at a moment; NONE if none does. */
        int blockedTo(int bay, int moment) {
            Table jobs = state.jobs;
            int to = NONE;
            for (int job = 0; job < jobs.size() && job < freeFrom.length; job++) {
                boolean isThere = jobs.get(job, State.JOB_BAY) == bay && jobs.get(job, State.BEGIN) <= moment;
                if (isThere && moment < freeFrom[job] && freeFrom[job] > to) {
                    to = freeFrom[job];
                }
            }
            return to;
        }

        /** The first moment from one on at which a work may begin; each turn leaves a job behind. */
        private int firstMoment(int bay, int from) {
            int moment = from;
            for (int turn = 0; turn <= State.MOST_JOBS && moment < MOMENTS; turn++) {
                int to = blockedTo(bay, moment);
                if (to == NONE) {
                    return moment;
                }
                moment = to;
            }
            return NONE;
        }

        int workEnd(int bay, int gang, int moment) {
            int skill = state.gangs.get(gang, State.SKILL);
            if (moment < 0 || skill < 1) {
                return NONE;
            }
            int hours = (state.bays.get(bay, State.NEED) + skill - 1) / skill;
            for (int at = moment; at < MOMENTS; at++) {
                if (isOpen(bay, at)) {
                    hours--;
                    if (hours <= 0) {
                        return at + 1;
                    }
                }
            }
            return NONE;
        }

        private boolean isOpen(int bay, int moment) {
            if (moment < 0 || moment >= looks.length || bay < 0 || bay >= State.MOST_BAYS) {
                return false;
            }
            int looked = 1 << bay;
            int open = looked << State.MOST_BAYS;
            if ((looks[moment] & looked) == 0) {
                place.stand(bay, moment);
                looks[moment] |= place.whyHere(terms) == 0 ? looked | open : looked;
            }
            return (looks[moment] & open) != 0;
        }

        int walkedEnd(int gang, int set, int moment) {
            int end = NONE;
            int before = NONE;
            for (int bay = 0; bay < State.MOST_BAYS; bay++) {
                if ((set >> bay & 1) == 1) {
                    int from = before == NONE ? moment : end + bay - before;
                    end = workEnd(bay, gang, firstMoment(bay, from));
                    if (end == NONE) {
                        return NONE;
                    }
                    before = bay;
                }
            }
            return end;
        }

        /** The end of the best order, or the bay that it begins with; NONE. */
        int bestOrder(int gang, int set, int moment, boolean first) {
            int best = BEHIND_ALL;
            int firstBay = NONE;
            for (int bay = 0; bay < State.MOST_BAYS; bay++) {
                if ((set >> bay & 1) == 1) {
                    int end = leastEnd(this, gang, set, bay, moment, best, 1);
                    if (end != NONE) {
                        best = end;
                        firstBay = bay;
                    }
                }
            }
            return first || firstBay == NONE ? firstBay : best;
        }

        /** The least end of all orders of a set that begin with a bay; NONE if none is below the bound. */
        private static int leastEnd(Works works, int gang, int set, int bay, int from, int bound, int depth) {
            int end = works.workEnd(bay, gang, works.firstMoment(bay, from));
            if (end == NONE || end >= bound || depth > MOST_ORDERED) {
                return NONE;
            }
            int rest = set & ~(1 << bay);
            if (rest == 0) {
                return end;
            }
            int best = NONE;
            int least = bound;
            for (int other = 0; other < State.MOST_BAYS; other++) {
                if ((rest >> other & 1) == 1) {
                    int walk = other < bay ? bay - other : other - bay;
                    int found = leastEnd(works, gang, rest, other, end + walk, least, depth + 1);
                    if (found != NONE) {
                        best = found;
                        least = found;
                    }
                }
            }
            return best;
        }

        /** All ends together of the gangs put best to the bays of a set, or the gang for one of these; NONE. */
        int putGangs(int set, int moment, int askedBay) {
            int bays = Integer.bitCount(set);
            if (bays > state.gangs.size() || bays > State.MOST_GANGS) {
                return NONE;
            }
            measurePuts(set, moment);
            int best = NONE;
            int least = FAR_ABOVE;
            // A choice has two bits a bay, the first bay's highest, so the first of the least is the one wanted.
            for (int choice = 0; choice < 1 << 2 * bays; choice++) {
                int sum = endsTogether(choice, bays);
                if (sum != NONE && sum < least) {
                    best = choice;
                    least = sum;
                }
            }
            if (best == NONE || askedBay == NONE) {
                return best == NONE ? NONE : least;
            }
            if ((set >> askedBay & 1) == 0) {
                return NONE;
            }
            int later = Integer.bitCount(set >> askedBay) - 1;
            return best >> 2 * later & 3;
        }

        private void measurePuts(int set, int moment) {
            int row = 0;
            for (int bay = 0; bay < State.MOST_BAYS; bay++) {
                if ((set >> bay & 1) == 1) {
                    int begin = firstMoment(bay, moment);
                    for (int gang = 0; gang < State.MOST_GANGS; gang++) {
                        int at = row * State.MOST_GANGS + gang;
                        if (at < putEnds.length) {
                            putEnds[at] = workEnd(bay, gang, begin);
                        }
                    }
                    row++;
                }
            }
        }

        /** NONE if a gang is put to two bays, or has no end at its bay (one that there is not has none). */
        private int endsTogether(int choice, int bays) {
            int used = 0;
            int sum = 0;
            for (int row = 0; row < bays; row++) {
                int gang = choice >> 2 * (bays - 1 - row) & 3;
                int at = row * State.MOST_GANGS + gang;
                int end = at < putEnds.length ? putEnds[at] : NONE;
                if (end == NONE || (used >> gang & 1) == 1) {
                    return NONE;
                }
                used |= 1 << gang;
                sum += end;
            }
            return sum;
        }
    }

    /** What is known on a day of jobs, batches, steel and bolts. */
    private static final class Past {
        private final State state;
        private final Place place;
        /** By day: on how many days ahead of it the bay last measured is bare. */
        private final int[] bareAhead;

        Past(State state, Place place) {
            this.state = state;
            this.place = place;
            bareAhead = new int[DAYS + 1];
        }

        int lastJob(int bay, int day, int known) {
            Table jobs = state.jobs;
            int last = NONE;
            int lastEnd = NONE;
            for (int job = 0; job < jobs.size(); job++) {
                int end = jobs.get(job, State.END);
                boolean isThere = jobs.get(job, State.JOB_BAY) == bay && state.isKnown(job, known);
                if (isThere && end <= (day + 1) * HOURS && end >= lastEnd) {
                    last = job;
                    lastEnd = end;
                }
            }
            return last;
        }

        int recalled(int batch, int known, boolean covered) {
            int bits = 0;
            for (int bay = 0; bay < state.bays.size(); bay++) {
                int end = latestEnd(bay, batch, known, true);
                boolean isOver = latestEnd(bay, batch, known, false) > end;
                if (end != NONE && (isOver || !covered)) {
                    bits |= 1 << bay;
                }
            }
            return bits;
        }

        /** The latest end of the jobs at a bay with a batch, or with another one than it; NONE. */
        private int latestEnd(int bay, int batch, int known, boolean same) {
            Table jobs = state.jobs;
            int latest = NONE;
            for (int job = 0; job < jobs.size(); job++) {
                boolean isThere = jobs.get(job, State.JOB_BAY) == bay && state.isKnown(job, known);
                boolean isAsked = jobs.get(job, State.JOB_BATCH) == batch == same;
                if (isThere && isAsked && jobs.get(job, State.END) > latest) {
                    latest = jobs.get(job, State.END);
                }
            }
            return latest;
        }

        int leadCaught(int from, int to, int known) {
            Table jobs = state.jobs;
            int lead = 0;
            for (int job = 0; job < jobs.size(); job++) {
                int day = jobs.get(job, State.BEGIN) / HOURS;
                if (state.isKnown(job, known) && day >= from && day <= to) {
                    int each = state.batches.get(jobs.get(job, State.JOB_BATCH), State.LEAD);
                    lead += each * state.tinsFor(jobs.get(job, State.JOB_BAY));
                }
            }
            return lead;
        }

        /** To be called ahead of what counts bare days. */
        void measureBare(int bay, int known) {
            Arrays.fill(bareAhead, 1);
            for (int job = 0; job < state.jobs.size(); job++) {
                if (state.jobs.get(job, State.JOB_BAY) == bay && state.isKnown(job, known)) {
                    markHeld(bay, job, known);
                }
            }
            int bare = 0;
            for (int day = 0; day < bareAhead.length; day++) {
                int more = bareAhead[day];
                bareAhead[day] = bare;
                bare += more;
            }
        }

        private void markHeld(int bay, int job, int known) {
            place.stand(bay, state.jobs.get(job, State.BEGIN));
            int from = (state.jobs.get(job, State.END) - 1) / HOURS;
            int to = from + place.holdHere(state.jobs.get(job, State.JOB_TERMS));
            if (state.isPeeled(job, known)) {
                to = Math.min(to, state.jobs.get(job, State.PEELED) - 1);
            }
            for (int day = Math.max(from, 0); day <= to && day < bareAhead.length; day++) {
                bareAhead[day] = 0;
            }
        }

        int bareDays(int from, int to) {
            int behind = to + 1;
            if (from < 0 || from > behind || behind >= bareAhead.length) {
                return 0;
            }
            return bareAhead[behind] - bareAhead[from];
        }

        int steelOn(int bay, int day, int known, boolean most) {
            int reading = latestReading(bay, day, known);
            int from = 0;
            int steel = state.bays.get(bay, State.STEEL);
            if (reading != NONE) {
                int read = state.readings.get(reading, State.READ_STEEL);
                from = state.readings.get(reading, State.READ_DAY);
                steel = most ? Math.min(read + 2, MOST_STEEL) : Math.max(read - 2, 0);
            }
            int side = state.bays.get(bay, State.SIDE);
            int loss = state.losses.get(side, most ? State.LEAST : State.GREATEST);
            return Math.max(steel - loss * bareDays(from, day - 1), 0);
        }

        private int latestReading(int bay, int day, int known) {
            Table readings = state.readings;
            int latest = NONE;
            int latestDay = NONE;
            for (int row = 0; row < readings.size(); row++) {
                int read = readings.get(row, State.READ_DAY);
                boolean isKnown = readings.get(row, State.READ_TOLD) <= known;
                boolean isThere = readings.get(row, State.READ_BAY) == bay && read <= day;
                if (isKnown && isThere && read >= latestDay) {
                    latest = row;
                    latestDay = read;
                }
            }
            return latest;
        }

        int firstBelow(int bay, int limit, int known) {
            for (int day = 0; day < DAYS; day++) {
                if (steelOn(bay, day, known, false) < limit) {
                    return day;
                }
            }
            return NONE;
        }

        /** How many jobs of a gang are known, or are known to peel. */
        int jobsOf(int gang, int known, boolean peeled) {
            Table jobs = state.jobs;
            int found = 0;
            for (int job = 0; job < jobs.size(); job++) {
                boolean isKnown = jobs.get(job, State.JOB_GANG) == gang && state.isKnown(job, known);
                if (isKnown && (!peeled || state.isPeeled(job, known))) {
                    found++;
                }
            }
            return found;
        }

        int worstGang(int known) {
            int worst = NONE;
            int worstPeeled = 0;
            int worstAll = 1;
            for (int gang = 0; gang < state.gangs.size(); gang++) {
                int peeled = jobsOf(gang, known, true);
                int all = jobsOf(gang, known, false);
                if (peeled * worstAll > worstPeeled * all) {
                    worst = gang;
                    worstPeeled = peeled;
                    worstAll = all;
                }
            }
            return worst;
        }

        int riskOf(int job) {
            int bay = state.jobs.get(job, State.JOB_BAY);
            int terms = state.jobs.get(job, State.JOB_TERMS);
            int end = state.jobs.get(job, State.END);
            int sum = 0;
            for (int moment = state.jobs.get(job, State.BEGIN); moment < end; moment++) {
                place.stand(bay, moment);
                if (place.whyHere(terms) == 0) {
                    sum += place.windAtHeight();
                }
            }
            return sum;
        }

        int nearestBatch(int colour, int known) {
            Table batches = state.batches;
            int nearest = NONE;
            int least = FAR_ABOVE;
            for (int batch = 0; batch < batches.size(); batch++) {
                int failed = batches.get(batch, State.FAILED);
                int apart = Math.abs(batches.get(batch, State.COLOUR) - colour);
                boolean isGood = failed == NONE || failed > known;
                if (isGood && apart < least && state.tinsLeft(batch) > 0) {
                    nearest = batch;
                    least = apart;
                }
            }
            return nearest;
        }

        int boltsFound(int bay, int from, int to) {
            Table bolts = state.bolts;
            int found = 0;
            for (int row = 0; row < bolts.size(); row++) {
                int day = bolts.get(row, State.BOLT_DAY);
                if (bolts.get(row, State.BOLT_BAY) == bay && day >= from && day <= to) {
                    found++;
                }
            }
            return found;
        }

        int boltedMost() {
            int most = 0;
            int thickest = NONE;
            for (int bay = 0; bay < state.bays.size(); bay++) {
                int found = boltsFound(bay, 0, DAYS - 1);
                if (found > most) {
                    most = found;
                    thickest = bay;
                }
            }
            return thickest;
        }
    }

    /** Coats for coin, a contractor's promise, even years. */
    private static final class Purse {
        private static final int MOST_PRICE = 9999;
        private static final int NO_EDGE = 99999;
        private static final int CHOICES = 6561;

        private final State state;
        /** By coin: the least wear of the bays so far, CHOICES times, and their coats, a digit to the base 3 each. */
        private final int[] least;

        Purse(State state) {
            this.state = state;
            least = new int[MOST_COIN + 1];
        }

        /** The least wear for so much coin, or the coats of a bay for it. */
        int coatsFor(int coin, int askedBay) {
            Arrays.fill(least, 0);
            int unit = CHOICES / 3;
            int askedUnit = 1;
            for (int bay = 0; bay < state.bays.size(); bay++) {
                addBay(bay, unit, coin);
                if (bay == askedBay) {
                    askedUnit = unit;
                }
                unit /= 3;
            }
            int found = coin >= 0 && coin < least.length ? least[coin] : 0;
            if (askedBay == NONE || askedUnit < 1) {
                return found / CHOICES;
            }
            return found % CHOICES / askedUnit % 3;
        }

        /** From the most coin down, as less coin must still tell of the bays ahead alone. */
        private void addBay(int bay, int unit, int most) {
            for (int coin = Math.min(most, least.length - 1); coin >= 0; coin--) {
                int best = FAR_ABOVE;
                for (int coats = 0; coats <= 2; coats++) {
                    int rest = coin - state.bays.get(bay, State.COST + coats);
                    if (rest >= 0 && rest <= coin) {
                        int wear = state.bays.get(bay, State.WEAR + coats);
                        best = Math.min(best, least[rest] + wear * CHOICES + coats * unit);
                    }
                }
                least[coin] = best;
            }
        }

        /** Rows of winters of which as many as told, or more, are hard. */
        long rowsFailed(int years, int h, int hard) {
            long rows = 0;
            for (int hardOnes = hard; hardOnes <= years; hardOnes++) {
                rows += chosen(years, hardOnes) * power(h, hardOnes) * power(4 - h, years - hardOnes);
            }
            return rows;
        }

        /** In how many ways so many are chosen out of all; each division leaves no rest. */
        private static long chosen(int all, int many) {
            long ways = 1;
            for (int i = 1; i <= many; i++) {
                ways = ways * (all - many + i) / i;
            }
            return ways;
        }

        private static long power(int base, int times) {
            long product = 1;
            for (int i = 0; i < times; i++) {
                product *= base;
            }
            return product;
        }

        /** The price is paid once, and once again in the rows that fail, in each of all rows. */
        int greatestPrice(int years, int h, int hard, int always) {
            long all = power(4, years);
            long paid = all + rowsFailed(years, h, hard);
            if (paid <= 0) {
                return NO_EDGE;
            }
            long price = (long) always * years * all / paid;
            return price > MOST_PRICE ? NO_EDGE : (int) price;
        }

        int evenNeed(int years) {
            int most = 0;
            for (int bay = 0; bay < state.bays.size(); bay++) {
                most += state.bays.get(bay, State.NEED);
            }
            for (int cap = 0; cap < most; cap++) {
                if (isEnough(cap, years)) {
                    return cap;
                }
            }
            return most;
        }

        /** Whether all bays go into the years, each filled as far as the cap lets it be. */
        private boolean isEnough(int cap, int years) {
            int used = 1;
            int sum = 0;
            for (int bay = 0; bay < state.bays.size(); bay++) {
                int need = state.bays.get(bay, State.NEED);
                if (need > cap) {
                    return false;
                }
                if (sum + need > cap) {
                    used++;
                    sum = 0;
                }
                sum += need;
            }
            return used <= years;
        }
    }
}
