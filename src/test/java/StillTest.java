/** Questions change nothing, whatever they answer, in whatever state the hall is. */
public final class StillTest {
    private interface Question {
        void ask(PendulumHall hall);
    }

    private final String state;
    private final Halls.Maker maker;
    private final String untouched;

    private StillTest(String state, Halls.Maker maker) {
        this.state = state;
        this.maker = maker;
        this.untouched = Probe.of(maker.make());
    }

    public static void main(String[] args) {
        probesDiffer();
        new StillTest("fresh", Halls::fresh).everyQuestion();
        new StillTest("busy", Halls::busy).everyQuestion();
        new StillTest("full", Halls::full).everyQuestion();
        wrongOnesThatAreNotOfRanges();
        Check.end();
    }

    /** Asked once and, in another hall, twice: what is left behind may be for the next question alone. */
    private void still(String name, Question question) {
        PendulumHall once = maker.make();
        question.ask(once);
        Check.due(state + ": " + name + " changes nothing", Probe.of(once).equals(untouched), true);
        PendulumHall twice = maker.make();
        question.ask(twice);
        question.ask(twice);
        Check.due(state + ": " + name + ", again, changes nothing", Probe.of(twice).equals(untouched), true);
    }

    private void everyQuestion() {
        int clocks = maker.make().count(0);
        int bobs = maker.make().count(5);
        for (int clock = 0; clock < clocks; clock++) {
            int asked = clock;
            still("rate", hall -> hall.rate(asked));
            still("off", hall -> hall.off(asked));
            still("isTrusted", hall -> hall.isTrusted(asked));
        }
        if (clocks > 0) {
            still("time", PendulumHall::time);
        }
        for (int bob = 0; bob < bobs; bob++) {
            int asked = bob;
            still("place", hall -> hall.bob(asked, false));
            still("speed", hall -> hall.bob(asked, true));
        }
        still("energy", PendulumHall::energy);
        still("share", PendulumHall::share);
        for (int what = 0; what <= 5; what++) {
            int asked = what;
            still("count", hall -> hall.count(asked));
        }
        surveyQuestions();
        questionsOfNoState();
    }

    /** Those that the state answers with an exception are asked as well. */
    private void surveyQuestions() {
        for (int from = 0; from < 10; from++) {
            for (int to = 0; to < 10; to++) {
                int first = from;
                int second = to;
                still("tie", hall -> trying(() -> hall.tie(first, second)));
                still("loop", hall -> trying(() -> hall.loop(first, second, 3)));
            }
            int asked = from;
            still("gravity", hall -> trying(() -> hall.gravity(asked)));
        }
    }

    private static void trying(Runnable doing) {
        try {
            doing.run();
        } catch (IllegalStateException none) {
            return;
        }
    }

    private void questionsOfNoState() {
        still("phase", hall -> hall.phase(123, 240, 77, 300));
        for (int what = 0; what <= 2; what++) {
            int asked = what;
            still("round", hall -> hall.round(123, 240, 77, asked));
        }
        still("tongue", hall -> hall.tongue(100, 1, 2));
        still("together", hall -> hall.together(1001, 1000, 3));
        still("togetherAnew", hall -> hall.togetherAnew(100100, 100000, 300));
        still("turned", hall -> hall.turned(-48, 90));
        still("latitude", hall -> hall.latitude(1115));
        still("driven", hall -> hall.driven(5, 9, 17, 12));
        still("driven, undone", hall -> hall.driven(5, 9, 17, -12));
        still("returns", hall -> hall.returns(5, 9, 17));
        still("rounds", hall -> hall.rounds(17, PendulumHall.NONE));
        still("parting", hall -> hall.parting(5, 9, 17, 12));
    }

    /** The probe itself must tell states apart, or nothing above is worth anything. */
    private static void probesDiffer() {
        String busy = Probe.of(Halls.busy());
        Check.due("two of the same", Probe.of(Halls.busy()).equals(busy), true);
        Question[] changes = {
            hall -> hall.heat(28), hall -> hall.pressure(1002), hall -> hall.clock(0, 0, true, 0),
            hall -> hall.regulate(1, 40, -701), hall -> hall.regulate(0, 31, 5000), hall -> hall.set(2, 1),
            hall -> hall.days(1), hall -> hall.datum(2, 982), hall -> hall.datum(3, 981),
            hall -> hall.read(0, 41, 0), PendulumHall::close, PendulumHall::forget,
            hall -> hall.chain(3, 5, 2), hall -> hall.pull(2, hall.bob(2, false), 0),
            hall -> hall.drive(8, 13), hall -> hall.drive(7, 14), hall -> hall.step(1),
        };
        for (int i = 0; i < changes.length; i++) {
            PendulumHall hall = Halls.busy();
            changes[i].ask(hall);
            Check.due("the probe sees change " + i, Probe.of(hall).equals(busy), false);
        }
    }

    /** A time of no clock, surveys that cannot be closed, steps that cannot be done. */
    private static void wrongOnesThatAreNotOfRanges() {
        Halls.Maker clockless = () -> {
            PendulumHall hall = Halls.fresh();
            hall.read(5, 0, 0);
            hall.read(6, 1, 9);
            hall.chain(2, 3, 4);
            return hall;
        };
        PendulumHall none = clockless.make();
        Check.dueThrow("time of no clock", Check.STATE, none::time);
        Check.due("time that throws changes nothing",
                Probe.of(none).equals(Probe.of(clockless.make())), true);
        int[][] open = {{}, {5, 1}, {5, 1, 6, 2}, {5, 1, 5, 2}, {5, 1, 6, 2, 7, 3},
            {5, 1, 5, 2, 5, 3}, {5, 1, 6, 2, 6, 3, 5, 4}};
        for (int[] told : open) {
            Halls.Maker maker = () -> {
                PendulumHall hall = Halls.fresh();
                Halls.tell(hall, 5, 6, 44);
                for (int i = 0; i < told.length; i += 2) {
                    hall.read(told[i], 10 * i, told[i + 1]);
                }
                return hall;
            };
            PendulumHall hall = maker.make();
            Check.dueThrow("close of " + told.length / 2, Check.STATE, hall::close);
            Check.due("close that throws changes nothing",
                    Probe.of(hall).equals(Probe.of(maker.make())), true);
        }
        Halls.Maker stuck = () -> {
            PendulumHall hall = Halls.fresh();
            hall.chain(3, 0, 0);
            hall.pull(0, -100, 50);
            hall.pull(2, 100000, 100000);
            hall.step(9);
            return hall;
        };
        PendulumHall hall = stuck.make();
        Check.due("a step that cannot be done", hall.step(1000), 0);
        Check.due("nothing of it is", Probe.of(hall).equals(Probe.of(stuck.make())), true);
    }
}
