import java.util.Random;

/** Promises 15 and 16: beats that fall together. */
public final class BeatsTest {
    public static void main(String[] args) {
        byHand();
        bothByHand();
        bothByDistance();
        wrongInputs();
        Check.end();
    }

    private static void together(int p, int q, int tolerance, int want) {
        Check.due("together(" + p + ", " + q + ", " + tolerance + ")",
                Halls.asked().together(p, q, tolerance), want);
    }

    private static void both(int p, int q, int tolerance, int want) {
        together(p, q, tolerance, want);
        Check.due("togetherAnew(" + p + ", " + q + ", " + tolerance + ")",
                Halls.asked().togetherAnew(p, q, tolerance), want);
    }

    private static void byHand() {
        together(1, 1, 0, 1);
        together(2, 3, 0, 3);
        together(3, 2, 0, 2);
        together(7, 5, 1, 2);
        together(7, 5, 2, 1);
        together(1, 10, 0, 10);
        together(1, 10, 1, 1);
        together(4, 10, 2, 2);
        together(6, 10, 2, 2);
        together(1, 5000, 0, 5000);
        together(1, 5001, 0, PendulumHall.NONE);
        together(1, 5001, 1, 1);
        together(2, 10001, 1, 5000);
        together(2, 10003, 1, PendulumHall.NONE);
        together(2000000, 1, 0, 1);
        together(2000000, 3, 0, 3);
        together(1, 2000000, 1000000, 1);
        together(1000000, 2000000, 999999, 2);
    }

    private static void bothByHand() {
        both(1000000, 1000000, 0, 1);
        both(1000000, 1000000, 1000000, 1);
        both(1000000, 1500000, 0, 3);
        both(1500000, 1000000, 0, 2);
        both(1000000, 1000200, 0, PendulumHall.NONE);
        both(1000000, 1000200, 200, 1);
        both(1000000, 1000200, 199, PendulumHall.NONE);
        both(100000, 100020, 0, PendulumHall.NONE);
        both(100020, 100000, 0, 5000);
        both(100020, 100000, 19, 5000);
        both(100020, 100000, 20, 1);
        both(100000, 2000000, 100000, 1);
        both(100000, 2000000, 99999, 20);
        both(2000000, 100000, 0, 1);
        both(1999999, 100000, 0, PendulumHall.NONE);
        both(1999999, 100000, 1, 1);
        both(1999999, 2000000, 0, PendulumHall.NONE);
        both(1900000, 2000000, 99999, 20);
        both(1900000, 2000000, 100000, 1);
        // The first beat of the second one counts too.
        both(300000, 2000000, 300000, 1);
    }

    /** The least distance of a beat to any of the second one's, by looking at all near ones. */
    private static int byDistance(int p, int q, int tolerance) {
        for (int beat = 1; beat <= 5000; beat++) {
            long at = (long) beat * p;
            long about = at / q;
            for (long other = about < 2 ? 0 : about - 2; other <= about + 2; other++) {
                if (Math.abs(other * q - at) <= tolerance) {
                    return beat;
                }
            }
        }
        return PendulumHall.NONE;
    }

    private static void bothByDistance() {
        Random random = new Random(5);
        for (int i = 0; i < 400; i++) {
            int p = 100000 + random.nextInt(1900001);
            int q = 100000 + random.nextInt(1900001);
            int tolerance = random.nextInt(1 << random.nextInt(19));
            both(p, q, tolerance, byDistance(p, q, tolerance));
            int small = 1 + random.nextInt(9000);
            int other = 1 + random.nextInt(9000);
            together(small, other, tolerance % 4, byDistance(small, other, tolerance % 4));
        }
    }

    private static void wrongInputs() {
        Check.dueRange("together's p", 1, 2000000, Check.ILLEGAL, p -> Halls.asked().together(p, 7, 0));
        Check.dueRange("together's q", 1, 2000000, Check.ILLEGAL, q -> Halls.asked().together(7, q, 0));
        Check.dueRange("together's tolerance", 0, 1000000, Check.ILLEGAL,
                tolerance -> Halls.asked().together(7, 7, tolerance));
        Check.dueRange("togetherAnew's p", 100000, 2000000, Check.ILLEGAL,
                p -> Halls.asked().togetherAnew(p, 100000, 0));
        Check.dueRange("togetherAnew's q", 100000, 2000000, Check.ILLEGAL,
                q -> Halls.asked().togetherAnew(100000, q, 0));
        Check.dueRange("togetherAnew's tolerance", 0, 1000000, Check.ILLEGAL,
                tolerance -> Halls.asked().togetherAnew(100000, 100000, tolerance));
    }
}
