import java.util.function.Supplier;

/**
 * All that a hall tells of its state, as one text: first what it answers, then what it does.
 * Two halls in the same state give the same text; a hall is used up by it.
 */
final class Probe {
    private final PendulumHall hall;
    private final StringBuilder told = new StringBuilder();

    private Probe(PendulumHall hall) {
        this.hall = hall;
    }

    static String of(PendulumHall hall) {
        Probe probe = new Probe(hall);
        probe.ask();
        probe.goOnWithClocks();
        probe.goOnWithSurvey();
        probe.goOnWithChain();
        return probe.told.toString();
    }

    private void say(String name, Supplier<Object> call) {
        told.append(name).append(' ');
        try {
            told.append(call.get());
        } catch (RuntimeException thrown) {
            told.append(thrown.getClass().getSimpleName());
        }
        told.append('\n');
    }

    private void ask() {
        for (int what = 0; what <= 5; what++) {
            int asked = what;
            say("count " + what, () -> hall.count(asked));
        }
        askClocks();
        say("time", hall::time);
        askSurvey();
        askBobs();
    }

    private void askClocks() {
        for (int clock = 0; clock < hall.count(0); clock++) {
            int asked = clock;
            say("rate " + clock, () -> hall.rate(asked));
            say("off " + clock, () -> hall.off(asked));
        }
    }

    private void askSurvey() {
        for (int from = 0; from < 10; from++) {
            int asked = from;
            say("gravity " + from, () -> hall.gravity(asked));
            for (int to = from + 1; to < 10; to++) {
                int other = to;
                say("tie " + from + " " + to, () -> hall.tie(asked, other));
            }
        }
        say("tie 9 8", () -> hall.tie(9, 8));
    }

    private void askBobs() {
        for (int bob = 0; bob < hall.count(5); bob++) {
            int asked = bob;
            say("place " + bob, () -> hall.bob(asked, false));
            say("speed " + bob, () -> hall.bob(asked, true));
        }
        say("energy", hall::energy);
        say("share", hall::share);
    }

    private void goOnWithClocks() {
        say("days", () -> hall.days(1));
        askClocks();
        say("heat", () -> hall.heat(31));
        say("pressure", () -> hall.pressure(999));
        for (int clock = 0; clock < hall.count(0); clock++) {
            int asked = clock;
            say("regulate " + clock, () -> hall.regulate(asked, 11, 5));
            say("set " + clock, () -> hall.set(asked, 0));
        }
        say("clock", () -> hall.clock(PendulumHall.BRASS, 9, false, 1));
        askClocks();
    }

    /** The halls' open surveys begin at the station 5. */
    private void goOnWithSurvey() {
        say("close", hall::close);
        say("read", () -> hall.read(5, 9999, 60));
        say("close", hall::close);
        say("forget", hall::forget);
        askSurvey();
    }

    private void goOnWithChain() {
        say("step", () -> hall.step(1));
        say("back", () -> hall.back(1));
        askBobs();
        hall.pull(0, -50, 300);
        say("step", () -> hall.step(1));
        askBobs();
        say("chain", () -> hall.chain(2, 1, 1));
    }
}
