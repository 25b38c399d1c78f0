import java.util.function.Function;

/**
 * Every call of the face, by every choice of arguments at the edges of their ranges and beside
 * them: the exception that is listed first is thrown, or none, and one that throws changes nothing.
 */
public final class RangesTest {
    private interface Call {
        void on(PendulumHall hall, int[] a);
    }

    /** What an argument may be and may not be, at its edges, and what is due if it may not. */
    private static final class Arg {
        private final Class<? extends RuntimeException> due;
        private final int[] taken;
        private final int[] refused;

        Arg(Class<? extends RuntimeException> due, int[] taken, int... refused) {
            this.due = due;
            this.taken = taken;
            this.refused = refused;
        }

        int choices() {
            return taken.length + refused.length;
        }

        boolean isTaken(int choice) {
            return choice < taken.length;
        }

        int number(int choice) {
            return isTaken(choice) ? taken[choice] : refused[choice - taken.length];
        }
    }

    private static Arg range(int least, int most) {
        return new Arg(Check.ILLEGAL, new int[] {least, most},
                Integer.MIN_VALUE, least - 1, most + 1, Integer.MAX_VALUE);
    }

    /** The numbers from 0 of so many things. */
    private static Arg numberOf(int count) {
        int[] taken = count == 0 ? new int[0] : new int[] {0, count - 1};
        return new Arg(Check.INDEX, taken, Integer.MIN_VALUE, -1, count, Integer.MAX_VALUE);
    }

    private static final Arg STATION = numberOf(10);
    private static final Arg SIDE = range(0, 63);

    private final String state;
    private final Halls.Maker maker;
    private final String untouched;
    private final int clocks;
    private final int bobs;

    private RangesTest(String state, Halls.Maker maker, int clocks, int bobs) {
        this.state = state;
        this.maker = maker;
        this.untouched = Probe.of(maker.make());
        this.clocks = clocks;
        this.bobs = bobs;
    }

    public static void main(String[] args) {
        RangesTest fresh = new RangesTest("fresh", Halls::fresh, 0, 1);
        fresh.everyState();
        fresh.freshAlone();
        RangesTest busy = new RangesTest("busy", Halls::busy, 3, 3);
        busy.everyState();
        busy.busyAlone();
        RangesTest full = new RangesTest("full", Halls::full, 10, 8);
        full.everyState();
        full.fullAlone();
        busy.questionsOfNoState();
        theLastCall();
        Check.end();
    }

    private void sweep(String name, Call call, Arg... args) {
        sweep(name, null, call, args);
    }

    /** Goes through all choices; what is due with all arguments taken is told by another one. */
    private void sweep(String name, Function<int[], Class<? extends RuntimeException>> within,
            Call call, Arg... args) {
        int all = 1;
        for (Arg arg : args) {
            all *= arg.choices();
        }
        for (int turn = 0; turn < all; turn++) {
            int[] a = new int[args.length];
            Class<? extends RuntimeException> due = null;
            boolean isIndexWrong = false;
            boolean isWrong = false;
            int rest = turn;
            StringBuilder told = new StringBuilder(state + ": " + name);
            for (int i = 0; i < args.length; i++) {
                int choice = rest % args[i].choices();
                rest /= args[i].choices();
                a[i] = args[i].number(choice);
                told.append(' ').append(a[i]);
                if (!args[i].isTaken(choice)) {
                    isWrong = true;
                    isIndexWrong |= args[i].due == Check.INDEX;
                }
            }
            if (isIndexWrong) {
                due = Check.INDEX;
            } else if (isWrong) {
                due = Check.ILLEGAL;
            } else if (within != null) {
                due = within.apply(a);
            }
            one(told.toString(), due, hall -> call.on(hall, a));
        }
    }

    private interface Doing {
        void on(PendulumHall hall);
    }

    private void one(String told, Class<? extends RuntimeException> due, Doing doing) {
        PendulumHall hall = maker.make();
        Class<?> thrown = null;
        try {
            doing.on(hall);
        } catch (RuntimeException caught) {
            thrown = caught.getClass();
        }
        Check.due(told + " threw " + thrown + ", due is " + due + ";", thrown == due, true);
        if (due != null) {
            Check.due(told + " changes nothing", Probe.of(hall).equals(untouched), true);
        }
    }

    private void everyState() {
        sweep("heat", (hall, a) -> hall.heat(a[0]), range(-20, 50));
        sweep("pressure", (hall, a) -> hall.pressure(a[0]), range(900, 1100));
        Function<int[], Class<? extends RuntimeException>> tenth = a -> clocks == 10 ? Check.STATE : null;
        sweep("clock", tenth, (hall, a) -> hall.clock(a[0], a[1], a[3] == 1, a[2]),
                range(0, 3), range(0, 200), range(-1000000, 1000000), new Arg(null, new int[] {0, 1}));
        sweep("regulate", (hall, a) -> hall.regulate(a[0], a[1], a[2]),
                numberOf(clocks), range(0, 200), range(-1000000, 1000000));
        sweep("set", (hall, a) -> hall.set(a[0], a[1]), numberOf(clocks), range(-1000000000, 1000000000));
        sweep("days", (hall, a) -> hall.days(a[0]), range(1, 10000));
        sweep("rate", (hall, a) -> hall.rate(a[0]), numberOf(clocks));
        sweep("off", (hall, a) -> hall.off(a[0]), numberOf(clocks));
        sweep("isTrusted", (hall, a) -> hall.isTrusted(a[0]), numberOf(clocks));
        sweep("datum", (hall, a) -> hall.datum(a[0], a[1]), STATION, range(-1000000, 1000000));
        sweep("chain", (hall, a) -> hall.chain(a[0], a[1], a[2]), range(1, 8), range(0, 15), range(0, 15));
        sweep("pull", (hall, a) -> hall.pull(a[0], a[1], a[2]),
                numberOf(bobs), range(-100000, 100000), range(-100000, 100000));
        sweep("drive", (hall, a) -> hall.drive(a[0], a[1]), range(0, 100), range(-1000, 1000));
        sweep("step", (hall, a) -> hall.step(a[0]), range(1, 1000));
        sweep("bob", (hall, a) -> hall.bob(a[0], a[1] == 1), numberOf(bobs), new Arg(null, new int[] {0, 1}));
        sweep("count", (hall, a) -> hall.count(a[0]), range(0, 5));
    }

    private void freshAlone() {
        one("time without clocks", Check.STATE, PendulumHall::time);
        one("close without readings", Check.STATE, PendulumHall::close);
        sweep("read", (hall, a) -> hall.read(a[0], a[1], a[2]),
                STATION, range(0, 10000), range(-1000000, 1000000));
        sweep("back", (hall, a) -> hall.back(a[0]), range(1, 1000));
        sweep("tie", a -> Check.STATE, (hall, a) -> hall.tie(a[0], a[1]), STATION, STATION);
        sweep("gravity", a -> a[0] == 0 ? null : Check.STATE, (hall, a) -> hall.gravity(a[0]), STATION);
        sweep("loop", a -> Check.STATE, (hall, a) -> hall.loop(a[0], a[1], a[2]), STATION, STATION, STATION);
    }

    private void busyAlone() {
        one("time", null, PendulumHall::time);
        one("close", null, PendulumHall::close);
        Arg hour = new Arg(Check.ILLEGAL, new int[] {41, 10000},
                Integer.MIN_VALUE, -1, 0, 39, 40, 10001, Integer.MAX_VALUE);
        sweep("read", (hall, a) -> hall.read(a[0], a[1], a[2]), STATION, hour, range(-1000000, 1000000));
        sweep("back", a -> Check.STATE, (hall, a) -> hall.back(a[0]), range(1, 1000));
        Arg tied = new Arg(Check.INDEX, new int[] {2, 3, 4, 8}, -1, 10);
        sweep("tie", a -> isTiedInBusy(a[0], a[1]) ? null : Check.STATE,
                (hall, a) -> hall.tie(a[0], a[1]), tied, tied);
        Arg some = new Arg(Check.INDEX, new int[] {0, 2, 3, 4, 7, 8, 9}, -1, 10);
        sweep("gravity", a -> a[0] == 2 || a[0] == 3 || a[0] == 4 || a[0] == 8 ? null : Check.STATE,
                (hall, a) -> hall.gravity(a[0]), some);
        sweep("loop", a -> isTiedInBusy(a[0], a[1]) && isTiedInBusy(a[1], a[2]) && isTiedInBusy(a[2], a[0])
                ? null : Check.STATE, (hall, a) -> hall.loop(a[0], a[1], a[2]), tied, tied, tied);
    }

    /** The ties that Halls.busy() tells: 3 to 2, 2 to 8, 8 to 3, and 2 to 4. */
    private static boolean isTiedInBusy(int from, int to) {
        int pair = 10 * Math.min(from, to) + Math.max(from, to);
        return pair == 23 || pair == 28 || pair == 38 || pair == 24;
    }

    private void fullAlone() {
        one("time", null, PendulumHall::time);
        one("close", null, PendulumHall::close);
        Arg hour = new Arg(Check.ILLEGAL, new int[] {1101, 10000},
                Integer.MIN_VALUE, -1, 0, 1099, 1100, 10001, Integer.MAX_VALUE);
        sweep("read", a -> Check.STATE, (hall, a) -> hall.read(a[0], a[1], a[2]),
                STATION, hour, range(-1000000, 1000000));
        sweep("back", (hall, a) -> hall.back(a[0]), range(1, 1000));
        sweep("tie", a -> a[0] == a[1] ? Check.STATE : null,
                (hall, a) -> hall.tie(a[0], a[1]), STATION, STATION);
        sweep("gravity", (hall, a) -> hall.gravity(a[0]), STATION);
        Arg some = new Arg(Check.INDEX, new int[] {0, 4, 9}, -1, 10);
        sweep("loop", a -> a[0] == a[1] || a[1] == a[2] || a[2] == a[0] ? Check.STATE : null,
                (hall, a) -> hall.loop(a[0], a[1], a[2]), some, some, some);
    }

    private void questionsOfNoState() {
        Arg w = range(0, 999);
        Arg c = range(0, 300);
        sweep("phase", (hall, a) -> hall.phase(a[0], a[1], a[2], a[3]), w, c, w, range(0, 10000));
        sweep("round", (hall, a) -> hall.round(a[0], a[1], a[2], a[3]), w, c, w, range(0, 2));
        sweep("tongue", (hall, a) -> hall.tongue(a[0], a[1], a[2]), c, range(0, 100), range(1, 100));
        sweep("together", (hall, a) -> hall.together(a[0], a[1], a[2]),
                range(1, 2000000), range(1, 2000000), range(0, 1000000));
        sweep("togetherAnew", (hall, a) -> hall.togetherAnew(a[0], a[1], a[2]),
                range(100000, 2000000), range(100000, 2000000), range(0, 1000000));
        sweep("turned", (hall, a) -> hall.turned(a[0], a[1]), range(-90, 90), range(0, 100000));
        sweep("latitude", (hall, a) -> hall.latitude(a[0]), range(-2000, 2000));
        Arg k = range(0, 200);
        sweep("driven", (hall, a) -> hall.driven(a[0], a[1], a[2], a[3]), SIDE, SIDE, k, range(-10000, 10000));
        sweep("returns", (hall, a) -> hall.returns(a[0], a[1], a[2]), SIDE, SIDE, k);
        Arg length = new Arg(Check.ILLEGAL, new int[] {PendulumHall.NONE, 1, 4096},
                Integer.MIN_VALUE, -2, 0, 4097, Integer.MAX_VALUE);
        sweep("rounds", (hall, a) -> hall.rounds(a[0], a[1]), k, length);
        sweep("parting", (hall, a) -> hall.parting(a[0], a[1], a[2], a[3]), SIDE, SIDE, k, range(0, 10000));
    }

    /** An object is used for at most 512 calls: the 512th still answers as due. */
    private static void theLastCall() {
        PendulumHall hall = Halls.fresh();
        for (int call = 1; call < 512; call++) {
            hall.round(call, 100, 0, 0);
        }
        Check.due("the 512th call", hall.round(100, 100, 0, 2), 1);
        PendulumHall days = Halls.fresh();
        days.clock(PendulumHall.BRASS, 200, false, -1000000);
        for (int call = 2; call < 511; call++) {
            days.days(10000);
        }
        Check.due("all days together", days.days(10000), 5100000);
        Check.due("the 512th call's off", days.off(0), 5100000L * -1216000);
    }
}
