import java.util.ArrayList;
import java.util.Collections;
import java.util.HashMap;
import java.util.List;
import java.util.Map;
import java.util.TreeMap;

/**
 * The document told again, as slowly and plainly as it may be, to compare PendulumHall with.
 * An answer is a Long, a Float, "void", or the name of the exception that is due.
 */
final class Model {
    static final String ILLEGAL = "IllegalArgumentException";
    static final String STATE = "IllegalStateException";
    static final String INDEX = "IndexOutOfBoundsException";

    private static final long[] STRETCH = {11, 19, 5, 1};

    private long heat = 20;
    private long pressure = 1013;
    private long daysGone = 0;
    /** Each clock: rod, arc, cheeks, adjustment, off. */
    private final List<long[]> clocks = new ArrayList<>();

    private int datum = 0;
    private long datumValue = 0;
    /** Each reading: station, hour, value. */
    private final List<long[]> readings = new ArrayList<>();
    private final Map<Integer, Map<Integer, Long>> ties = new TreeMap<>();

    private long weight = 0;
    private long spring = 0;
    private long air = 0;
    private long push = 0;
    private long[][] bobs = new long[1][2];

    Model() {
        for (int station = 0; station < 10; station++) {
            ties.put(station, new TreeMap<>());
        }
    }

    private static boolean in(long number, long least, long most) {
        return least <= number && number <= most;
    }

    /** The greatest whole number that is at most the quotient. */
    private static long down(long number, long by) {
        long cut = number / by;
        while (cut * by > number) {
            cut--;
        }
        return cut;
    }

    private static long rest(long number, long by) {
        return number - by * down(number, by);
    }

    Object answer(String call, int[] a) {
        switch (call) {
            case "heat":
            case "pressure":
            case "clock":
            case "regulate":
            case "set":
            case "days":
                return tellClocks(call, a);
            case "rate":
            case "off":
            case "isTrusted":
            case "time":
                return askClocks(call, a);
            case "datum":
            case "read":
            case "close":
            case "forget":
                return tellSurvey(call, a);
            case "tie":
            case "gravity":
            case "loop":
                return askSurvey(call, a);
            case "chain":
            case "pull":
            case "drive":
            case "step":
            case "back":
                return tellChain(call, a);
            case "bob":
                return in(a[0], 0, bobs.length - 1) ? (Object) bobs[a[0]][a[1]] : INDEX;
            case "energy":
                return energy();
            case "share":
                return (float) energy() / bobs.length;
            case "count":
                return count(a[0]);
            default:
                throw new AssertionError(call);
        }
    }

    private Object tellClocks(String call, int[] a) {
        boolean isThere = in(a[0], 0, clocks.size() - 1);
        switch (call) {
            case "heat": {
                if (!in(a[0], -20, 50)) {
                    return ILLEGAL;
                }
                long was = heat;
                heat = a[0];
                return was;
            }
            case "pressure": {
                if (!in(a[0], 900, 1100)) {
                    return ILLEGAL;
                }
                long was = pressure;
                pressure = a[0];
                return was;
            }
            case "clock":
                if (!in(a[0], 0, 3) || !in(a[1], 0, 200) || !in(a[3], -1000000, 1000000)) {
                    return ILLEGAL;
                }
                if (clocks.size() == 10) {
                    return STATE;
                }
                clocks.add(new long[] {a[0], a[1], a[2], a[3], 0});
                return clocks.size() - 1L;
            case "regulate":
                if (!isThere) {
                    return INDEX;
                }
                if (!in(a[1], 0, 200) || !in(a[2], -1000000, 1000000)) {
                    return ILLEGAL;
                }
                clocks.get(a[0])[1] = a[1];
                clocks.get(a[0])[3] = a[2];
                return rate(clocks.get(a[0]));
            case "set": {
                if (!isThere) {
                    return INDEX;
                }
                if (!in(a[1], -1000000000, 1000000000)) {
                    return ILLEGAL;
                }
                long was = clocks.get(a[0])[4];
                clocks.get(a[0])[4] = a[1];
                return was;
            }
            default:
                if (!in(a[0], 1, 10000)) {
                    return ILLEGAL;
                }
                for (int day = 0; day < a[0]; day++) {
                    daysGone++;
                    for (long[] clock : clocks) {
                        clock[4] += rate(clock);
                    }
                }
                return daysGone;
        }
    }

    private long rate(long[] clock) {
        long rate = clock[3];
        if (clock[2] == 0) {
            rate -= down(54 * clock[1] * clock[1], 10);
        }
        rate -= down(432 * STRETCH[(int) clock[0]] * (heat - 20), 10);
        rate -= 12 * (pressure - 1013);
        return rate;
    }

    private long time() {
        List<Long> offs = new ArrayList<>();
        for (long[] clock : clocks) {
            offs.add(clock[4]);
        }
        Collections.sort(offs);
        int half = offs.size() / 2;
        return offs.size() % 2 == 1 ? offs.get(half) : down(offs.get(half - 1) + offs.get(half), 2);
    }

    private boolean isTrusted(long[] clock) {
        return Math.abs(clock[4] - time()) <= 500;
    }

    private Object askClocks(String call, int[] a) {
        if (call.equals("time")) {
            return clocks.isEmpty() ? (Object) STATE : time();
        }
        if (!in(a[0], 0, clocks.size() - 1)) {
            return INDEX;
        }
        long[] clock = clocks.get(a[0]);
        if (call.equals("rate")) {
            return rate(clock);
        }
        return call.equals("off") ? clock[4] : isTrusted(clock) ? 1L : 0L;
    }

    private Object tellSurvey(String call, int[] a) {
        switch (call) {
            case "datum":
                if (!in(a[0], 0, 9)) {
                    return INDEX;
                }
                if (!in(a[1], -1000000, 1000000)) {
                    return ILLEGAL;
                }
                datum = a[0];
                datumValue = a[1];
                return "void";
            case "read": {
                if (!in(a[0], 0, 9)) {
                    return INDEX;
                }
                boolean isLate = readings.isEmpty() || a[1] > readings.get(readings.size() - 1)[1];
                if (!in(a[1], 0, 10000) || !in(a[2], -1000000, 1000000) || !isLate) {
                    return ILLEGAL;
                }
                if (readings.size() == 12) {
                    return STATE;
                }
                readings.add(new long[] {a[0], a[1], a[2]});
                return (long) readings.size();
            }
            case "close":
                return close();
            default: {
                long were = readings.size();
                readings.clear();
                return were;
            }
        }
    }

    private Object close() {
        if (readings.size() < 3) {
            return STATE;
        }
        long[] first = readings.get(0);
        long[] last = readings.get(readings.size() - 1);
        boolean isClosed = first[0] == last[0];
        for (int i = 1; i < readings.size(); i++) {
            isClosed &= readings.get(i)[0] != readings.get(i - 1)[0];
        }
        if (!isClosed) {
            return STATE;
        }
        List<Long> values = new ArrayList<>();
        for (long[] reading : readings) {
            values.add(reading[2] - down((last[2] - first[2]) * (reading[1] - first[1]), last[1] - first[1]));
        }
        for (int i = 1; i < readings.size(); i++) {
            int from = (int) readings.get(i - 1)[0];
            int to = (int) readings.get(i)[0];
            long tie = values.get(i) - values.get(i - 1);
            ties.get(from).put(to, tie);
            ties.get(to).put(from, -tie);
        }
        long told = readings.size() - 1;
        readings.clear();
        return told;
    }

    /** The steps of each station that is reached. */
    private Map<Integer, Integer> steps() {
        Map<Integer, Integer> steps = new HashMap<>();
        List<Integer> queue = new ArrayList<>();
        steps.put(datum, 0);
        queue.add(datum);
        for (int i = 0; i < queue.size(); i++) {
            for (int to : ties.get(queue.get(i)).keySet()) {
                if (!steps.containsKey(to)) {
                    steps.put(to, steps.get(queue.get(i)) + 1);
                    queue.add(to);
                }
            }
        }
        return steps;
    }

    private long gravity(int station) {
        Map<Integer, Integer> steps = steps();
        if (station == datum) {
            return datumValue;
        }
        for (int from : ties.get(station).keySet()) {
            if (steps.get(from) == steps.get(station) - 1) {
                return gravity(from) + ties.get(from).get(station);
            }
        }
        throw new AssertionError("no way");
    }

    private Object askSurvey(String call, int[] a) {
        for (int station : a) {
            if (!in(station, 0, 9)) {
                return INDEX;
            }
        }
        if (call.equals("gravity")) {
            return steps().containsKey(a[0]) ? (Object) gravity(a[0]) : STATE;
        }
        long sum = 0;
        int legs = call.equals("tie") ? 1 : 3;
        for (int leg = 0; leg < legs; leg++) {
            Long tie = ties.get(a[leg]).get(a[(leg + 1) % a.length]);
            if (tie == null) {
                return STATE;
            }
            sum += tie;
        }
        return sum;
    }

    private Object tellChain(String call, int[] a) {
        switch (call) {
            case "chain": {
                if (!in(a[0], 1, 8) || !in(a[1], 0, 15) || !in(a[2], 0, 15)) {
                    return ILLEGAL;
                }
                long were = bobs.length;
                bobs = new long[a[0]][2];
                weight = a[1];
                spring = a[2];
                return were;
            }
            case "pull":
                if (!in(a[0], 0, bobs.length - 1)) {
                    return INDEX;
                }
                if (!in(a[1], -100000, 100000) || !in(a[2], -100000, 100000)) {
                    return ILLEGAL;
                }
                bobs[a[0]] = new long[] {a[1], a[2]};
                return "void";
            case "drive":
                if (!in(a[0], 0, 100) || !in(a[1], -1000, 1000)) {
                    return ILLEGAL;
                }
                air = a[0];
                push = a[1];
                return "void";
            default: {
                boolean isBack = call.equals("back");
                if (!in(a[0], 1, 1000)) {
                    return ILLEGAL;
                }
                if (isBack && (air != 0 || push != 0)) {
                    return STATE;
                }
                return steps(a[0], isBack);
            }
        }
    }

    private long steps(int n, boolean isBack) {
        long done = 0;
        while (done < n) {
            long[][] then = isBack ? stepBack() : step();
            for (long[] bob : then) {
                if (!in(bob[0], -1000000, 1000000) || !in(bob[1], -1000000, 1000000)) {
                    return done;
                }
            }
            bobs = then;
            done++;
        }
        return done;
    }

    private long springs(long[][] from, int bob) {
        long sum = 0;
        for (int beside = bob - 1; beside <= bob + 1; beside += 2) {
            if (in(beside, 0, from.length - 1)) {
                sum += from[beside][0] - from[bob][0];
            }
        }
        return down(spring * sum, 16);
    }

    private long[][] step() {
        long[][] then = new long[bobs.length][2];
        for (int bob = 0; bob < bobs.length; bob++) {
            long speed = bobs[bob][1];
            speed -= down(weight * bobs[bob][0], 16);
            speed += springs(bobs, bob);
            long taken = Math.abs(speed) * air / 100;
            speed = speed < 0 ? speed + taken : speed - taken;
            then[bob][0] = bobs[bob][0] + speed;
            then[bob][1] = speed;
        }
        if (bobs[0][0] < 0 && then[0][0] > -1) {
            then[0][1] += push;
        }
        return then;
    }

    private long[][] stepBack() {
        long[][] then = new long[bobs.length][2];
        for (int bob = 0; bob < bobs.length; bob++) {
            then[bob][0] = bobs[bob][0] - bobs[bob][1];
        }
        for (int bob = 0; bob < bobs.length; bob++) {
            then[bob][1] = bobs[bob][1] + down(weight * then[bob][0], 16) - springs(then, bob);
        }
        return then;
    }

    private long energy() {
        long energy = 0;
        for (int bob = 0; bob < bobs.length; bob++) {
            energy += 16 * bobs[bob][1] * bobs[bob][1] + weight * bobs[bob][0] * bobs[bob][0];
            if (bob + 1 < bobs.length) {
                long apart = bobs[bob + 1][0] - bobs[bob][0];
                energy += spring * apart * apart;
            }
        }
        return energy;
    }

    private Object count(int what) {
        long count = 0;
        switch (what) {
            case 0:
                return (long) clocks.size();
            case 1:
                for (long[] clock : clocks) {
                    count += isTrusted(clock) ? 1 : 0;
                }
                return count;
            case 2:
                return (long) readings.size();
            case 3:
                for (Map<Integer, Long> ways : ties.values()) {
                    count += ways.size();
                }
                return count / 2;
            case 4:
                return (long) steps().size();
            case 5:
                return (long) bobs.length;
            default:
                return ILLEGAL;
        }
    }
}
