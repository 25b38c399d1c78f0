import java.util.Arrays;

/**
 * A hall of all that swings: clocks, two clocks on one beam, beats, a gravity survey,
 * a plane that turns with the earth, a driven pendulum and a chain of bobs.
 *
 * <p>The face tests every argument, in the order of the exceptions that the document lists;
 * the classes inside it are handed tested arguments alone.
 */
public final class PendulumHall {
    public static final int NONE = -1;
    public static final int STEEL = 0, BRASS = 1, WOOD = 2, INVAR = 3;

    private static final int MILLION = 1000000;

    private final Clocks clocks;
    private final Beam beam;
    private final Survey survey;
    private final Torus torus;
    private final Bobs bobRow;

    /** Makes a hall with no clocks and one bob. */
    public PendulumHall() {
        clocks = new Clocks();
        beam = new Beam();
        survey = new Survey();
        torus = new Torus();
        bobRow = new Bobs();
    }

    // ---- clocks

    /** Sets the heat, and returns what it was. */
    public int heat(int heat) throws IllegalArgumentException {
        if (isOutside(heat, -20, 50)) {
            throw new IllegalArgumentException("heat is -20 to 50");
        }
        return clocks.swapHeat(heat);
    }

    /** Sets the pressure, and returns what it was. */
    public int pressure(int pressure) throws IllegalArgumentException {
        if (isOutside(pressure, 900, 1100)) {
            throw new IllegalArgumentException("pressure is 900 to 1100");
        }
        return clocks.swapPressure(pressure);
    }

    /** Makes a clock, and returns its number. */
    public int clock(int rod, int arc, boolean hasCheeks, int adjustment)
            throws IllegalArgumentException, IllegalStateException {
        if (isOutside(rod, STEEL, INVAR)) {
            throw new IllegalArgumentException("rod is STEEL to INVAR");
        }
        if (isBadRegulation(arc, adjustment)) {
            throw new IllegalArgumentException("arc is 0 to 200, adjustment -1000000 to 1000000");
        }
        if (clocks.isFull()) {
            throw new IllegalStateException("there are 10 clocks");
        }
        return clocks.add(rod, arc, hasCheeks, adjustment);
    }

    /** Regulates a clock, and returns its rate then. */
    public int regulate(int clock, int arc, int adjustment)
            throws IndexOutOfBoundsException, IllegalArgumentException {
        if (!clocks.has(clock)) {
            throw new IndexOutOfBoundsException("there is no such clock");
        }
        if (isBadRegulation(arc, adjustment)) {
            throw new IllegalArgumentException("arc is 0 to 200, adjustment -1000000 to 1000000");
        }
        clocks.adjust(clock, arc, adjustment);
        return clocks.rateOf(clock);
    }

    /** Sets by how much a clock is off, and returns by how much it was. */
    public long set(int clock, int off) throws IndexOutOfBoundsException, IllegalArgumentException {
        if (!clocks.has(clock)) {
            throw new IndexOutOfBoundsException("there is no such clock");
        }
        if (isOutside(off, -1000 * MILLION, 1000 * MILLION)) {
            throw new IllegalArgumentException("off is -1000000000 to 1000000000");
        }
        return clocks.swapOff(clock, off);
    }

    /** Lets days go by, and returns how many have gone by since the object was made. */
    public long days(int days) throws IllegalArgumentException {
        if (isOutside(days, 1, 10000)) {
            throw new IllegalArgumentException("days are 1 to 10000");
        }
        return clocks.goOn(days);
    }

    /** Returns the rate of a clock, as things are now. */
    public int rate(int clock) throws IndexOutOfBoundsException {
        if (!clocks.has(clock)) {
            throw new IndexOutOfBoundsException("there is no such clock");
        }
        return clocks.rateOf(clock);
    }

    /** Returns by how much a clock is off. */
    public long off(int clock) throws IndexOutOfBoundsException {
        if (!clocks.has(clock)) {
            throw new IndexOutOfBoundsException("there is no such clock");
        }
        return clocks.offOf(clock);
    }

    /** Returns the time by the middle of the clocks. */
    public long time() throws IllegalStateException {
        if (clocks.number() == 0) {
            throw new IllegalStateException("there is no clock");
        }
        return clocks.middle();
    }

    /** Tells whether a clock is near the time. */
    public boolean isTrusted(int clock) throws IndexOutOfBoundsException {
        if (!clocks.has(clock)) {
            throw new IndexOutOfBoundsException("there is no such clock");
        }
        return clocks.isNear(clock, clocks.middle());
    }

    // ---- the beam, beats

    /** Returns the phase behind n ticks. */
    public int phase(int w, int c, int d, int n) throws IllegalArgumentException {
        if (isBadBeam(w, c, d) || isOutside(n, 0, 10000)) {
            throw new IllegalArgumentException("w and d are 0 to 999, c 0 to 300, n 0 to 10000");
        }
        return beam.phaseBehind(w, c, d, n);
    }

    /** Tells the period (0), the turns (1) or the lead (2) of the round that phases come to. */
    public int round(int w, int c, int d, int what) throws IllegalArgumentException {
        if (isBadBeam(w, c, d) || isOutside(what, 0, 2)) {
            throw new IllegalArgumentException("w and d are 0 to 999, c 0 to 300, what 0 to 2");
        }
        beam.seekRound(w, c, d);
        if (what == 0) {
            return beam.periodFound();
        }
        return what == 1 ? beam.turnsFound() : beam.leadFound();
    }

    /** Counts the detunings whose rounds make so many turns in such a period. */
    public int tongue(int c, int turns, int period) throws IllegalArgumentException {
        if (isOutside(c, 0, 300) || isOutside(turns, 0, 100) || isOutside(period, 1, 100)) {
            throw new IllegalArgumentException("c is 0 to 300, turns 0 to 100, period 1 to 100");
        }
        return beam.countLocks(c, turns, period);
    }

    /** Returns the first beat that falls together with the second pendulum, by remainders. */
    public int together(int p, int q, int tolerance) throws IllegalArgumentException {
        if (isBadBeat(p, q, tolerance, 1)) {
            throw new IllegalArgumentException("p and q are 1 to 2000000, tolerance 0 to 1000000");
        }
        return Beats.byRemainders(p, q, tolerance);
    }

    /** Returns the same as together, by counting the beats of both pendulums. */
    public int togetherAnew(int p, int q, int tolerance) throws IllegalArgumentException {
        if (isBadBeat(p, q, tolerance, 100000)) {
            throw new IllegalArgumentException("p and q are 100000 to 2000000, tolerance 0 to 1000000");
        }
        return Beats.byCounting(p, q, tolerance);
    }

    // ---- gravity, turning

    /** Chooses the datum and its value. */
    public void datum(int station, int value) throws IndexOutOfBoundsException, IllegalArgumentException {
        if (isNoStation(station)) {
            throw new IndexOutOfBoundsException("there is no such station");
        }
        if (isOutside(value, -MILLION, MILLION)) {
            throw new IllegalArgumentException("value is -1000000 to 1000000");
        }
        survey.moveDatum(station, value);
    }

    /** Adds a reading to the survey, and returns how many there are then. */
    public int read(int station, int hour, int value)
            throws IndexOutOfBoundsException, IllegalArgumentException, IllegalStateException {
        if (isNoStation(station)) {
            throw new IndexOutOfBoundsException("there is no such station");
        }
        if (isOutside(hour, 0, 10000) || isOutside(value, -MILLION, MILLION) || !survey.isLater(hour)) {
            throw new IllegalArgumentException("hour is 0 to 10000 and later, value -1000000 to 1000000");
        }
        if (survey.isFull()) {
            throw new IllegalStateException("there are 12 readings");
        }
        return survey.add(station, hour, value);
    }

    /** Closes the survey, and returns how many ties it told. */
    public int close() throws IllegalStateException {
        if (!survey.canClose()) {
            throw new IllegalStateException("the readings are no closed loop");
        }
        return survey.tellTies();
    }

    /** Forgets all readings, and returns how many there were. */
    public int forget() {
        return survey.dropReadings();
    }

    /** Returns the tie from a station to another one. */
    public int tie(int from, int to) throws IndexOutOfBoundsException, IllegalStateException {
        if (isNoStation(from) || isNoStation(to)) {
            throw new IndexOutOfBoundsException("there is no such station");
        }
        if (!survey.isTied(from, to)) {
            throw new IllegalStateException("there is no tie");
        }
        return survey.difference(from, to);
    }

    /** Returns the gravity of a station. */
    public long gravity(int station) throws IndexOutOfBoundsException, IllegalStateException {
        if (isNoStation(station)) {
            throw new IndexOutOfBoundsException("there is no such station");
        }
        survey.countSteps();
        if (!survey.isReached(station)) {
            throw new IllegalStateException("no ties lead there from the datum");
        }
        return survey.carry(station);
    }

    /** Returns how far three stations do not close. */
    public int loop(int a, int b, int c) throws IndexOutOfBoundsException, IllegalStateException {
        if (isNoStation(a) || isNoStation(b) || isNoStation(c)) {
            throw new IndexOutOfBoundsException("there is no such station");
        }
        if (!survey.isTied(a, b) || !survey.isTied(b, c) || !survey.isTied(c, a)) {
            throw new IllegalStateException("one of the ties is not there");
        }
        return survey.difference(a, b) + survey.difference(b, c) + survey.difference(c, a);
    }

    /** Returns by how many degrees the plane has turned. */
    public float turned(int latitude, int minutes) throws IllegalArgumentException {
        if (isOutside(latitude, -90, 90) || isOutside(minutes, 0, 100000)) {
            throw new IllegalArgumentException("latitude is -90 to 90, minutes 0 to 100000");
        }
        return Plane.turn(latitude, minutes);
    }

    /** Finds the latitude at which the plane turns by what is nearest to the hundredths. */
    public int latitude(int hundredths) throws IllegalArgumentException {
        if (isOutside(hundredths, -2000, 2000)) {
            throw new IllegalArgumentException("hundredths are -2000 to 2000");
        }
        return Plane.nearestLatitude((float) hundredths);
    }

    // ---- the driven one

    /** Returns the state, 64 times the place and the speed, behind n moves; n below 0 undoes. */
    public int driven(int place, int speed, int k, int n) throws IllegalArgumentException {
        if (isBadDrive(place, speed, k) || isOutside(n, -10000, 10000)) {
            throw new IllegalArgumentException("place and speed are 0 to 63, k 0 to 200, n -10000 to 10000");
        }
        int state = Torus.state(place, speed);
        return n < 0 ? Torus.undone(state, k, -n) : Torus.moved(state, k, n);
    }

    /** Returns how long the round of a state is. */
    public int returns(int place, int speed, int k) throws IllegalArgumentException {
        if (isBadDrive(place, speed, k)) {
            throw new IllegalArgumentException("place and speed are 0 to 63, k 0 to 200");
        }
        return torus.walkRound(Torus.state(place, speed), k);
    }

    /** Counts the rounds that are just so long, or, for NONE, all. */
    public int rounds(int k, int length) throws IllegalArgumentException {
        if (isOutside(k, 0, 200) || length != NONE && isOutside(length, 1, Torus.STATES)) {
            throw new IllegalArgumentException("k is 0 to 200, length 1 to 4096 or NONE");
        }
        return torus.countRounds(k, length);
    }

    /** Returns how far a state and the one a place beside it are apart behind n moves. */
    public int parting(int place, int speed, int k, int n) throws IllegalArgumentException {
        if (isBadDrive(place, speed, k) || isOutside(n, 0, 10000)) {
            throw new IllegalArgumentException("place and speed are 0 to 63, k 0 to 200, n 0 to 10000");
        }
        int first = Torus.moved(Torus.state(place, speed), k, n);
        int second = Torus.moved(Torus.state(Torus.wrap(place + 1), speed), k, n);
        return Torus.apart(first, second);
    }

    // ---- the chain

    /** Hangs a new chain at rest, and returns how many bobs there were. */
    public int chain(int bobs, int k, int c) throws IllegalArgumentException {
        if (isOutside(bobs, 1, Bobs.MOST) || isOutside(k, 0, 15) || isOutside(c, 0, 15)) {
            throw new IllegalArgumentException("bobs are 1 to 8, k and c 0 to 15");
        }
        return bobRow.hang(bobs, k, c);
    }

    /** Sets the place and the speed of a bob. */
    public void pull(int bob, int place, int speed)
            throws IndexOutOfBoundsException, IllegalArgumentException {
        if (!bobRow.has(bob)) {
            throw new IndexOutOfBoundsException("there is no such bob");
        }
        if (isOutside(place, -100000, 100000) || isOutside(speed, -100000, 100000)) {
            throw new IllegalArgumentException("place and speed are -100000 to 100000");
        }
        bobRow.put(bob, place, speed);
    }

    /** Sets air and push. */
    public void drive(int air, int push) throws IllegalArgumentException {
        if (isOutside(air, 0, 100) || isOutside(push, -1000, 1000)) {
            throw new IllegalArgumentException("air is 0 to 100, push -1000 to 1000");
        }
        bobRow.setDrive(air, push);
    }

    /** Does up to n steps, and returns how many were done. */
    public int step(int n) throws IllegalArgumentException {
        if (isOutside(n, 1, 1000)) {
            throw new IllegalArgumentException("n is 1 to 1000");
        }
        return bobRow.stepMany(n, false);
    }

    /** Does up to n steps back, and returns how many were done. */
    public int back(int n) throws IllegalArgumentException, IllegalStateException {
        if (isOutside(n, 1, 1000)) {
            throw new IllegalArgumentException("n is 1 to 1000");
        }
        if (bobRow.isDriven()) {
            throw new IllegalStateException("there is air or a push");
        }
        return bobRow.stepMany(n, true);
    }

    /** Returns the place or the speed of a bob. */
    public int bob(int bob, boolean isSpeed) throws IndexOutOfBoundsException {
        if (!bobRow.has(bob)) {
            throw new IndexOutOfBoundsException("there is no such bob");
        }
        return isSpeed ? bobRow.speedOf(bob) : bobRow.placeOf(bob);
    }

    /** Returns the energy of the chain. */
    public long energy() {
        return bobRow.totalEnergy();
    }

    /** Returns the energy for each bob. */
    public float share() {
        return (float) bobRow.totalEnergy() / (float) bobRow.number();
    }

    /** Counts clocks, trusted ones, readings, tied pairs, reached stations or bobs. */
    public int count(int what) throws IllegalArgumentException {
        switch (what) {
            case 0:
                return clocks.number();
            case 1:
                return clocks.countNear();
            case 2:
                return survey.readingCount();
            case 3:
                return survey.countTiedPairs();
            case 4:
                survey.countSteps();
                return survey.countReached();
            case 5:
                return bobRow.number();
            default:
                throw new IllegalArgumentException("what is 0 to 5");
        }
    }

    private static boolean isOutside(int number, int least, int most) {
        return number < least || number > most;
    }

    private static boolean isBadRegulation(int arc, int adjustment) {
        return isOutside(arc, 0, 200) || isOutside(adjustment, -MILLION, MILLION);
    }

    private static boolean isBadBeam(int w, int c, int d) {
        return isOutside(w, 0, 999) || isOutside(c, 0, 300) || isOutside(d, 0, 999);
    }

    private static boolean isBadBeat(int p, int q, int tolerance, int least) {
        return isOutside(p, least, 2 * MILLION) || isOutside(q, least, 2 * MILLION)
                || isOutside(tolerance, 0, MILLION);
    }

    private static boolean isNoStation(int station) {
        return isOutside(station, 0, Survey.STATIONS - 1);
    }

    private static boolean isBadDrive(int place, int speed, int k) {
        return isOutside(place, 0, Torus.SIDE - 1) || isOutside(speed, 0, Torus.SIDE - 1)
                || isOutside(k, 0, 200);
    }

    /** The clocks and their weather. */
    private static final class Clocks {
        private static final int MOST = 10;
        private static final int[] STRETCHES = {11, 19, 5, 1};

        private final int[] stretches;
        private final int[] arcs;
        private final boolean[] cheeks;
        private final int[] adjustments;
        private final long[] offs;
        private final long[] sorted;
        private int clockCount;
        private int nowHeat;
        private int nowPressure;
        private long daysGone;

        Clocks() {
            stretches = new int[MOST];
            arcs = new int[MOST];
            cheeks = new boolean[MOST];
            adjustments = new int[MOST];
            offs = new long[MOST];
            sorted = new long[MOST];
            nowHeat = 20;
            nowPressure = 1013;
        }

        int number() {
            return clockCount;
        }

        boolean has(int clock) {
            return clock >= 0 && clock < clockCount;
        }

        boolean isFull() {
            return clockCount >= MOST;
        }

        int swapHeat(int heat) {
            int was = nowHeat;
            nowHeat = heat;
            return was;
        }

        int swapPressure(int pressure) {
            int was = nowPressure;
            nowPressure = pressure;
            return was;
        }

        int add(int rod, int arc, boolean hasCheeks, int adjustment) {
            int clock = clockCount;
            stretches[clock] = STRETCHES[rod];
            arcs[clock] = arc;
            cheeks[clock] = hasCheeks;
            adjustments[clock] = adjustment;
            clockCount++;
            return clock;
        }

        void adjust(int clock, int arc, int adjustment) {
            arcs[clock] = arc;
            adjustments[clock] = adjustment;
        }

        long swapOff(int clock, int off) {
            long was = offs[clock];
            offs[clock] = off;
            return was;
        }

        long offOf(int clock) {
            return offs[clock];
        }

        int rateOf(int clock) {
            int loss = Math.floorDiv(432 * stretches[clock] * (nowHeat - 20), 10);
            if (!cheeks[clock]) {
                loss += Math.floorDiv(54 * arcs[clock] * arcs[clock], 10);
            }
            return adjustments[clock] - loss - 12 * (nowPressure - 1013);
        }

        long goOn(int days) {
            for (int clock = 0; clock < clockCount; clock++) {
                offs[clock] += (long) rateOf(clock) * days;
            }
            daysGone += days;
            return daysGone;
        }

        /** The middle of the offs; what it answers without a clock is never used. */
        long middle() {
            sortOffs();
            // An odd number of clocks has the same one for both; none has the index 0, by the cut.
            int lower = (clockCount - 1) / 2;
            int upper = clockCount / 2;
            return Math.floorDiv(sorted[lower] + sorted[upper], 2L);
        }

        private void sortOffs() {
            for (int clock = 0; clock < clockCount; clock++) {
                int at = clock;
                while (at > 0 && sorted[at - 1] > offs[clock]) {
                    sorted[at] = sorted[at - 1];
                    at--;
                }
                sorted[at] = offs[clock];
            }
        }

        boolean isNear(int clock, long time) {
            long away = offs[clock] - time;
            return away >= -500 && away <= 500;
        }

        int countNear() {
            long time = middle();
            int near = 0;
            for (int clock = 0; clock < clockCount; clock++) {
                if (isNear(clock, time)) {
                    near++;
                }
            }
            return near;
        }
    }

    /** Two clocks on one beam; the rows note where a search for a round has been. */
    private static final class Beam {
        private static final int CIRCLE = 1000;

        private final int[] seenIn;
        private final int[] tickAt;
        private final int[] turnsAt;
        private int search;
        private int foundPeriod;
        private int foundTurns;
        private int foundLead;

        Beam() {
            seenIn = new int[CIRCLE];
            tickAt = new int[CIRCLE];
            turnsAt = new int[CIRCLE];
        }

        int periodFound() {
            return foundPeriod;
        }

        int turnsFound() {
            return foundTurns;
        }

        int leadFound() {
            return foundLead;
        }

        private static int pullOf(int d) {
            if (d < 250) {
                return d;
            }
            return d < 750 ? 500 - d : d - 1000;
        }

        /** The phase behind a tick, its turns not yet taken off. */
        private static int tick(int w, int c, int d) {
            return d + w - Math.floorDiv(c * pullOf(d), 100);
        }

        int phaseBehind(int w, int c, int d, int n) {
            int phase = d;
            for (int ticks = 0; ticks < n; ticks++) {
                phase = Math.floorMod(tick(w, c, phase), CIRCLE);
            }
            return phase;
        }

        void seekRound(int w, int c, int d) {
            // A number for each search spares clearing the rows.
            search++;
            int phase = d;
            int turns = 0;
            for (int ticks = 0; ticks <= CIRCLE; ticks++) {
                if (seenIn[phase] == search) {
                    foundLead = tickAt[phase];
                    foundPeriod = ticks - tickAt[phase];
                    foundTurns = turns - turnsAt[phase];
                    return;
                }
                seenIn[phase] = search;
                tickAt[phase] = ticks;
                turnsAt[phase] = turns;
                int gone = tick(w, c, phase);
                turns += Math.floorDiv(gone, CIRCLE);
                phase = Math.floorMod(gone, CIRCLE);
            }
        }

        int countLocks(int c, int turns, int period) {
            int locks = 0;
            for (int w = 0; w < CIRCLE; w++) {
                seekRound(w, c, 0);
                if (foundTurns * period == turns * foundPeriod) {
                    locks++;
                }
            }
            return locks;
        }
    }

    /** Beats of two pendulums that fall together. */
    private static final class Beats {
        private static final int LAST = 5000;
        // The longest first beats over the shortest second ones: 5000 times 2000000 by 100000.
        private static final int LAST_OF_SECOND = 100000;

        static int byRemainders(int p, int q, int tolerance) {
            for (int beat = 1; beat <= LAST; beat++) {
                long later = (long) beat * p % q;
                if (later <= tolerance || q - later <= tolerance) {
                    return beat;
                }
            }
            return NONE;
        }

        static int byCounting(int p, int q, int tolerance) {
            long first = 0;
            long second = 0;
            int secondBeat = 0;
            for (int beat = 1; beat <= LAST; beat++) {
                first += p;
                while (second + q <= first && secondBeat < LAST_OF_SECOND) {
                    second += q;
                    secondBeat++;
                }
                if (first - second <= tolerance || second + q - first <= tolerance) {
                    return beat;
                }
            }
            return NONE;
        }
    }

    /** The stations, the ties among them, and the readings of a survey. */
    private static final class Survey {
        static final int STATIONS = 10;
        private static final int MOST = 12;

        private final int[] stations;
        private final int[] hours;
        private final int[] values;
        private final int[] ties;
        private final boolean[] tied;
        private final int[] steps;
        private int readings;
        private int datumStation;
        private int datumValue;

        Survey() {
            stations = new int[MOST];
            hours = new int[MOST];
            values = new int[MOST];
            ties = new int[STATIONS * STATIONS];
            tied = new boolean[STATIONS * STATIONS];
            steps = new int[STATIONS];
        }

        void moveDatum(int station, int value) {
            datumStation = station;
            datumValue = value;
        }

        int readingCount() {
            return readings;
        }

        boolean isFull() {
            return readings >= MOST;
        }

        boolean isLater(int hour) {
            return readings == 0 || hour > hours[readings - 1];
        }

        int add(int station, int hour, int value) {
            stations[readings] = station;
            hours[readings] = hour;
            values[readings] = value;
            readings++;
            return readings;
        }

        int dropReadings() {
            int were = readings;
            readings = 0;
            return were;
        }

        boolean canClose() {
            if (readings < 3 || stations[readings - 1] != stations[0] || hours[readings - 1] <= hours[0]) {
                return false;
            }
            for (int reading = 1; reading < readings; reading++) {
                if (stations[reading] == stations[reading - 1]) {
                    return false;
                }
            }
            return true;
        }

        /** Takes out the drift and tells the ties, for readings that can be closed. */
        int tellTies() {
            int last = readings - 1;
            long drift = (long) values[last] - values[0];
            long span = (long) hours[last] - hours[0];
            int former = values[0];
            for (int reading = 1; reading <= last; reading++) {
                int latter = values[reading] - driftBy(drift, hours[reading] - hours[0], span);
                putTie(stations[reading - 1], stations[reading], latter - former);
                former = latter;
            }
            readings = 0;
            return last;
        }

        private static int driftBy(long drift, long since, long span) {
            return span < 1 ? 0 : (int) Math.floorDiv(drift * since, span);
        }

        private void putTie(int from, int to, int difference) {
            ties[way(from, to)] = difference;
            ties[way(to, from)] = -difference;
            tied[way(from, to)] = true;
            tied[way(to, from)] = true;
        }

        private static int way(int from, int to) {
            return from * STATIONS + to;
        }

        boolean isTied(int from, int to) {
            return tied[way(from, to)];
        }

        int difference(int from, int to) {
            return ties[way(from, to)];
        }

        int countTiedPairs() {
            int pairs = 0;
            for (int from = 0; from < STATIONS; from++) {
                for (int to = from + 1; to < STATIONS; to++) {
                    if (isTied(from, to)) {
                        pairs++;
                    }
                }
            }
            return pairs;
        }

        /** Notes for each station how many ties it is from the datum. */
        void countSteps() {
            Arrays.fill(steps, NONE);
            steps[datumStation] = 0;
            for (int far = 0; far < STATIONS - 1; far++) {
                for (int from = 0; from < STATIONS; from++) {
                    if (steps[from] == far) {
                        reachBeside(from, far + 1);
                    }
                }
            }
        }

        private void reachBeside(int from, int far) {
            for (int to = 0; to < STATIONS; to++) {
                if (steps[to] == NONE && isTied(from, to)) {
                    steps[to] = far;
                }
            }
        }

        boolean isReached(int station) {
            return steps[station] != NONE;
        }

        int countReached() {
            int reached = 0;
            for (int station = 0; station < STATIONS; station++) {
                if (isReached(station)) {
                    reached++;
                }
            }
            return reached;
        }

        /** The gravity of a station that is reached, the steps being counted. */
        long carry(int station) {
            long sum = datumValue;
            int at = station;
            for (int far = steps[station]; far > 0; far--) {
                int from = lowestBeside(at, far - 1);
                sum += difference(from, at);
                at = from;
            }
            return sum;
        }

        private int lowestBeside(int station, int far) {
            for (int from = 0; from < STATIONS; from++) {
                if (steps[from] == far && isTied(from, station)) {
                    return from;
                }
            }
            return station;
        }
    }

    /** The plane that turns with the earth. */
    private static final class Plane {
        static float turn(int latitude, int minutes) {
            int a = latitude < 0 ? -latitude : latitude;
            float m = (float) (a * (180 - a));
            float s = 4f * m / (40500f - m);
            float degrees = s * (float) minutes * 0.25f;
            return latitude < 0 ? 0f - degrees : degrees;
        }

        static int nearestLatitude(float hundredths) {
            int nearest = -90;
            float least = missAt(-90, hundredths);
            for (int latitude = -89; latitude <= 90; latitude++) {
                float miss = missAt(latitude, hundredths);
                if (miss < least) {
                    least = miss;
                    nearest = latitude;
                }
            }
            return nearest;
        }

        private static float missAt(int latitude, float hundredths) {
            float miss = turn(latitude, 60) * 100f - hundredths;
            return miss < 0f ? 0f - miss : miss;
        }
    }

    /** The driven one: its places and speeds are both round, so its states are a torus. */
    private static final class Torus {
        static final int SIDE = 64;
        static final int STATES = 4096;

        // A bit for each state, one number for each place.
        private final long[] seen;

        Torus() {
            seen = new long[SIDE];
        }

        static int state(int place, int speed) {
            return SIDE * place + speed;
        }

        static int wrap(int number) {
            return Math.floorMod(number, SIDE);
        }

        private static int shake(int place) {
            if (place < 32) {
                return Math.floorDiv(place * (32 - place), 8);
            }
            return -Math.floorDiv((place - 32) * (64 - place), 8);
        }

        private static int kick(int place, int k) {
            return Math.floorDiv(k * shake(place), 16);
        }

        static int moved(int state, int k, int n) {
            int place = state / SIDE;
            int speed = state % SIDE;
            for (int moves = 0; moves < n; moves++) {
                speed = wrap(speed + kick(place, k));
                place = wrap(place + speed);
            }
            return state(place, speed);
        }

        static int undone(int state, int k, int n) {
            int place = state / SIDE;
            int speed = state % SIDE;
            for (int moves = 0; moves < n; moves++) {
                place = wrap(place - speed);
                speed = wrap(speed - kick(place, k));
            }
            return state(place, speed);
        }

        private boolean isSeen(int state) {
            return (seen[state / SIDE] >> (state % SIDE) & 1L) == 1L;
        }

        /** Goes once round from a state, marks each state of that round, and counts them. */
        int walkRound(int first, int k) {
            int at = first;
            int states = 0;
            do {
                seen[at / SIDE] |= 1L << (at % SIDE);
                at = moved(at, k, 1);
                states++;
            } while (at != first && states < STATES);
            return states;
        }

        int countRounds(int k, int length) {
            Arrays.fill(seen, 0L);
            int found = 0;
            for (int first = 0; first < STATES; first++) {
                if (!isSeen(first)) {
                    int states = walkRound(first, k);
                    if (length == NONE || length == states) {
                        found++;
                    }
                }
            }
            return found;
        }

        static int apart(int first, int second) {
            return shorterWay(first / SIDE, second / SIDE) + shorterWay(first % SIDE, second % SIDE);
        }

        private static int shorterWay(int from, int to) {
            int way = wrap(to - from);
            return Math.min(way, SIDE - way);
        }
    }

    /** The chain of bobs; the next rows hold a step until it is known that it can be done. */
    private static final class Bobs {
        static final int MOST = 8;

        private final int[] places;
        private final int[] speeds;
        private final int[] nextPlaces;
        private final int[] nextSpeeds;
        private int bobCount;
        private int weight;
        private int spring;
        private int nowAir;
        private int nowPush;

        Bobs() {
            places = new int[MOST];
            speeds = new int[MOST];
            nextPlaces = new int[MOST];
            nextSpeeds = new int[MOST];
            bobCount = 1;
        }

        int number() {
            return bobCount;
        }

        boolean has(int bob) {
            return bob >= 0 && bob < bobCount;
        }

        int hang(int count, int k, int c) {
            int was = bobCount;
            bobCount = count;
            weight = k;
            spring = c;
            Arrays.fill(places, 0);
            Arrays.fill(speeds, 0);
            return was;
        }

        void put(int bob, int place, int speed) {
            places[bob] = place;
            speeds[bob] = speed;
        }

        void setDrive(int air, int push) {
            nowAir = air;
            nowPush = push;
        }

        boolean isDriven() {
            return nowAir != 0 || nowPush != 0;
        }

        int placeOf(int bob) {
            return places[bob];
        }

        int speedOf(int bob) {
            return speeds[bob];
        }

        int stepMany(int n, boolean isBack) {
            for (int done = 0; done < n; done++) {
                if (isBack) {
                    planStepBack();
                } else {
                    planStep();
                }
                if (!isPlanWithin()) {
                    return done;
                }
                takePlan();
            }
            return n;
        }

        private void planStep() {
            for (int bob = 0; bob < bobCount; bob++) {
                int speed = speeds[bob] + gainAt(places, bob);
                // The air's part is cut, not rounded down.
                speed -= speed * nowAir / 100;
                nextSpeeds[bob] = speed;
                nextPlaces[bob] = places[bob] + speed;
            }
            if (places[0] < 0 && nextPlaces[0] >= 0) {
                nextSpeeds[0] += nowPush;
            }
        }

        private void planStepBack() {
            for (int bob = 0; bob < bobCount; bob++) {
                nextPlaces[bob] = places[bob] - speeds[bob];
            }
            for (int bob = 0; bob < bobCount; bob++) {
                nextSpeeds[bob] = speeds[bob] - gainAt(nextPlaces, bob);
            }
        }

        /** What weight and springs add to the speed of a bob in a step from these places. */
        private int gainAt(int[] from, int bob) {
            int pulled = 0;
            if (bob > 0) {
                pulled += from[bob - 1] - from[bob];
            }
            if (bob + 1 < bobCount) {
                pulled += from[bob + 1] - from[bob];
            }
            return Math.floorDiv(spring * pulled, 16) - Math.floorDiv(weight * from[bob], 16);
        }

        private boolean isPlanWithin() {
            for (int bob = 0; bob < bobCount; bob++) {
                if (isOutside(nextPlaces[bob], -MILLION, MILLION)
                        || isOutside(nextSpeeds[bob], -MILLION, MILLION)) {
                    return false;
                }
            }
            return true;
        }

        private void takePlan() {
            System.arraycopy(nextPlaces, 0, places, 0, bobCount);
            System.arraycopy(nextSpeeds, 0, speeds, 0, bobCount);
        }

        long totalEnergy() {
            long moving = 0;
            long lifted = 0;
            long strained = 0;
            for (int bob = 0; bob < bobCount; bob++) {
                moving += square(speeds[bob]);
                lifted += square(places[bob]);
                if (bob > 0) {
                    strained += square(places[bob] - places[bob - 1]);
                }
            }
            return 16 * moving + weight * lifted + spring * strained;
        }

        private static long square(long number) {
            return number * number;
        }
    }
}
