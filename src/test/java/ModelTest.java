import java.util.ArrayList;
import java.util.Arrays;
import java.util.List;
import java.util.Random;

/** Runs of calls, the same ones each time, on a PendulumHall and on the Model beside it. */
public final class ModelTest {
    private static final int CALLS = 512;

    private final Random random;
    private final PendulumHall hall = new PendulumHall();
    private final Model model = new Model();
    private final List<String> trail = new ArrayList<>();
    private int hour = 0;
    private int bobCount = 1;
    private boolean isWrong = false;

    private ModelTest(long seed) {
        random = new Random(seed);
    }

    public static void main(String[] args) {
        for (int seed = 0; seed < 200; seed++) {
            new ModelTest(seed).run(seed % 4);
        }
        Check.end();
    }

    private void run(int theme) {
        while (trail.size() < CALLS - 20 && !isWrong) {
            int turn = theme == 3 ? random.nextInt(3) : theme;
            if (turn == 0) {
                clocks();
            } else if (turn == 1) {
                survey();
            } else {
                chain();
            }
        }
    }

    private void call(String name, int... a) {
        trail.add(name + Arrays.toString(a));
        Object due = model.answer(name, a);
        Object got;
        try {
            got = answer(name, a);
        } catch (RuntimeException thrown) {
            got = thrown.getClass().getSimpleName();
        }
        boolean isDue = got.equals(due);
        Check.due(isDue ? name : trail + " answered " + got + ", due is " + due + "; so", isDue, true);
        isWrong |= !isDue;
    }

    private Object answer(String name, int[] a) {
        switch (name) {
            case "heat": return (long) hall.heat(a[0]);
            case "pressure": return (long) hall.pressure(a[0]);
            case "clock": return (long) hall.clock(a[0], a[1], a[2] == 1, a[3]);
            case "regulate": return (long) hall.regulate(a[0], a[1], a[2]);
            case "set": return hall.set(a[0], a[1]);
            case "days": return hall.days(a[0]);
            case "rate": return (long) hall.rate(a[0]);
            case "off": return hall.off(a[0]);
            case "time": return hall.time();
            case "isTrusted": return hall.isTrusted(a[0]) ? 1L : 0L;
            case "datum": hall.datum(a[0], a[1]); return "void";
            case "read": return (long) hall.read(a[0], a[1], a[2]);
            case "close": return (long) hall.close();
            case "forget": return (long) hall.forget();
            case "tie": return (long) hall.tie(a[0], a[1]);
            case "gravity": return hall.gravity(a[0]);
            case "loop": return (long) hall.loop(a[0], a[1], a[2]);
            case "chain": return (long) hall.chain(a[0], a[1], a[2]);
            case "pull": hall.pull(a[0], a[1], a[2]); return "void";
            case "drive": hall.drive(a[0], a[1]); return "void";
            case "step": return (long) hall.step(a[0]);
            case "back": return (long) hall.back(a[0]);
            case "bob": return (long) hall.bob(a[0], a[1] == 1);
            case "energy": return hall.energy();
            case "share": return hall.share();
            case "count": return (long) hall.count(a[0]);
            default: throw new AssertionError(name);
        }
    }

    /** Mostly within the range, now and then at its ends or just outside. */
    private int some(int least, int most) {
        switch (random.nextInt(40)) {
            case 0: return least;
            case 1: return most;
            case 2: return least - 1;
            case 3: return most + 1;
            default: return least + random.nextInt(most - least + 1);
        }
    }

    private int noneOr(int least, int most) {
        return random.nextBoolean() ? 0 : some(least, most);
    }

    private int sign() {
        return random.nextBoolean() ? 1 : -1;
    }

    private void clocks() {
        switch (random.nextInt(9)) {
            case 0: call("heat", some(-20, 50)); break;
            case 1: call("pressure", some(900, 1100)); break;
            case 2:
                if (random.nextInt(6) == 0) {
                    call("clock", some(0, 3), some(0, 200), random.nextInt(2), sign() * random.nextInt(5000));
                }
                break;
            case 3: call("regulate", some(0, 9), some(0, 200), some(-1000000, 1000000)); break;
            case 4: call("set", some(0, 9), sign() * random.nextInt(900)); break;
            case 5: call("days", random.nextInt(10) == 0 ? some(1, 10000) : some(1, 4)); break;
            case 6: call("set", some(0, 9), some(-1000000000, 1000000000)); break;
            default: askClocks(); break;
        }
    }

    private void askClocks() {
        int clock = some(0, 9);
        call("rate", clock);
        call("off", clock);
        call("time");
        call("isTrusted", clock);
        call("count", random.nextInt(2));
    }

    private void survey() {
        switch (random.nextInt(8)) {
            case 0: call("datum", some(0, 9), some(-1000000, 1000000)); break;
            case 1: readSome(); break;
            case 2: call("close"); break;
            case 3:
                if (random.nextInt(4) == 0) {
                    call("forget");
                    hour = 0;
                }
                break;
            case 4:
            case 5: wholeSurvey(); break;
            default: askSurvey(); break;
        }
    }

    private void readSome() {
        hour += random.nextInt(6);
        call("read", some(0, 9), hour, some(-1000000, 1000000));
    }

    private void wholeSurvey() {
        call("forget");
        int count = 3 + random.nextInt(6);
        int first = random.nextInt(10);
        int station = first;
        hour = random.nextInt(50);
        for (int i = 0; i < count; i++) {
            call("read", station, hour, sign() * random.nextInt(i % 2 == 0 ? 300 : 1000001));
            hour += 1 + random.nextInt(40);
            station = i == count - 2 ? first : (station + 1 + random.nextInt(3)) % 10;
        }
        call("close");
        hour = 0;
    }

    private void askSurvey() {
        call("tie", some(0, 9), some(0, 9));
        call("gravity", some(0, 9));
        call("gravity", some(0, 9));
        call("loop", some(0, 9), some(0, 9), some(0, 9));
        call("count", some(0, 5));
    }

    private void chain() {
        switch (random.nextInt(8)) {
            case 0:
                if (random.nextInt(3) == 0) {
                    bobCount = 1 + random.nextInt(8);
                    call("chain", bobCount, some(0, 15), random.nextBoolean() ? 15 : some(0, 15));
                }
                break;
            case 1: call("pull", some(0, bobCount - 1), some(-100000, 100000), some(-100000, 100000)); break;
            case 2: call("pull", some(0, bobCount - 1), some(-50, 50), some(-50, 50)); break;
            case 3: call("drive", noneOr(0, 100), noneOr(-1000, 1000)); break;
            case 4: call("step", some(1, 1000)); break;
            case 5: call("step", some(1, 7)); break;
            case 6:
                if (random.nextInt(3) == 0) {
                    call("drive", 0, 0);
                }
                call("back", random.nextBoolean() ? some(1, 6) : some(1, 1000));
                break;
            default: break;
        }
        for (int bob = 0; bob <= bobCount; bob += 3) {
            call("bob", bob, random.nextInt(2));
        }
        call("energy");
        call("share");
    }
}
