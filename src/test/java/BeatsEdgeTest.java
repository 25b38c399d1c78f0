/** Promises 15 and 16 at their boundaries, a test for each sentence that names one. */
public final class BeatsEdgeTest {
    private static final int NONE = PendulumHall.NONE;

    public static void main(String[] args) {
        firstBeatIsNumberOne();
        justTheToleranceLater();
        justTheToleranceEarlier();
        theBeatAtFirstToo();
        theLastBeatCounted();
        noneUpToTheLast();
        noToleranceAndTheMost();
        periodsAtTheirEnds();
        periodsAnewAtTheirEnds();
        outOfRange();
        Check.end();
    }

    private static void together(String why, int p, int q, int tolerance, int want) {
        Check.due("15: " + why + ": " + p + " " + q + " " + tolerance,
                Halls.asked().together(p, q, tolerance), want);
    }

    private static void both(String why, int p, int q, int tolerance, int want) {
        together(why, p, q, tolerance, want);
        Check.due("16: " + why + ": " + p + " " + q + " " + tolerance,
                Halls.asked().togetherAnew(p, q, tolerance), want);
    }

    // "counted from then on, 1 at the next one"

    private static void firstBeatIsNumberOne() {
        together("the same", 5, 5, 0, 1);
        both("the same", 100000, 100000, 0, 1);
        both("twice as long", 200000, 100000, 0, 1);
        both("half as long", 100000, 200000, 0, 2);
    }

    // "is at most a tolerance earlier or later": the second's beat earlier than the first's ..

    private static void justTheToleranceLater() {
        together("2 behind", 7, 5, 2, 1);
        together("2 behind is not 1", 7, 5, 1, 2);
        both("7 behind", 100007, 100000, 7, 1);
        both("7 behind is not 6", 100007, 100000, 6, first(100007, 100000, 6));
        both("behind a later one", 250003, 100000, 6, 2);
        both("behind a later one is not 5", 250003, 100000, 5, first(250003, 100000, 5));
    }

    // .. and later than it

    private static void justTheToleranceEarlier() {
        together("2 ahead", 8, 5, 2, 1);
        together("2 ahead is not 1", 8, 5, 1, 2);
        both("7 ahead", 100000, 100007, 7, 1);
        both("7 ahead is not 6", 100000, 100007, 6, first(100000, 100007, 6));
        both("ahead of a later one", 249997, 100000, 6, 2);
        both("ahead of a later one is not 5", 249997, 100000, 5, first(249997, 100000, 5));
    }

    /** The first beat near one of the second's, by looking at each of them. */
    private static int first(int p, int q, int tolerance) {
        for (int beat = 1; beat <= 5000; beat++) {
            for (long other = (long) beat * p / q - 1; other <= (long) beat * p / q + 1; other++) {
                long apart = (long) beat * p - other * q;
                if (other >= 0 && -tolerance <= apart && apart <= tolerance) {
                    return beat;
                }
            }
        }
        return NONE;
    }

    // "the one at first too"

    private static void theBeatAtFirstToo() {
        together("1 behind the first one", 1, 10, 1, 1);
        together("not within 0 of it", 1, 10, 0, 10);
        both("behind the first one", 100000, 2000000, 100000, 1);
        both("not within it", 100000, 2000000, 99999, 20);
    }

    // "NONE if none up to 5000 does"

    private static void theLastBeatCounted() {
        together("the 4999th", 1, 4999, 0, 4999);
        together("the 5000th", 1, 5000, 0, 5000);
        together("the 5000th by its tolerance", 2, 10001, 1, 5000);
        both("the 4999th", 100000, 199960, 0, 4999);
        both("the 5000th", 100040, 200000, 0, 5000);
        both("the 5000th, the first one slower", 100020, 100000, 0, 5000);
        both("the 5000th by its tolerance", 100020, 100000, 19, 5000);
        both("the 5000th of very slow ones", 1999980, 100000, 0, 5000);
        both("the 5000th, within 19 later", 1999980, 100000, 19, 5000);
    }

    private static void noneUpToTheLast() {
        together("the 5001st", 1, 5001, 0, NONE);
        together("the 5001st by its tolerance", 2, 10003, 1, NONE);
        both("the 5001st", 100000, 100020, 0, NONE);
        both("the 5001st, the second one slower", 100000, 200040, 0, NONE);
        both("none by 1", 1999999, 2000000, 0, NONE);
        both("none of very slow ones", 1999999, 100000, 0, NONE);
    }

    private static void noToleranceAndTheMost() {
        both("none", 1000000, 1500000, 0, 3);
        both("the most is half of the longest", 1000000, 2000000, 1000000, 1);
        both("one less is not", 1000000, 2000000, 999999, 2);
        together("far more than both", 3, 2, 1000000, 1);
        both("far more than both", 150000, 100000, 1000000, 1);
    }

    private static void periodsAtTheirEnds() {
        together("both the least", 1, 1, 0, 1);
        together("both the most", 2000000, 2000000, 0, 1);
        together("the most and the least", 2000000, 1, 0, 1);
        together("the least and the most", 1, 2000000, 0, NONE);
        together("the least and the most, 1 behind", 1, 2000000, 1, 1);
    }

    private static void periodsAnewAtTheirEnds() {
        both("both the least", 100000, 100000, 0, 1);
        both("both the most", 2000000, 2000000, 0, 1);
        both("the most and the least", 2000000, 100000, 0, 1);
        both("the least and the most", 100000, 2000000, 0, 20);
        together("less than the least anew", 99999, 100000, 0, NONE);
        together("less than the least anew", 100000, 99999, 0, NONE);
    }

    private static void outOfRange() {
        int[][] bad = {{0, 1, 0}, {1, 0, 0}, {2000001, 1, 0}, {1, 2000001, 0}, {1, 1, -1}, {1, 1, 1000001}};
        for (int[] a : bad) {
            Check.dueThrow("15: out of range", Check.ILLEGAL,
                    () -> Halls.asked().together(a[0], a[1], a[2]));
        }
        int[][] badAnew = {{99999, 100000, 0}, {100000, 99999, 0}, {2000001, 100000, 0},
            {100000, 2000001, 0}, {100000, 100000, -1}, {100000, 100000, 1000001}, {1, 1, 0}};
        for (int[] a : badAnew) {
            Check.dueThrow("16: out of range", Check.ILLEGAL,
                    () -> Halls.asked().togetherAnew(a[0], a[1], a[2]));
        }
    }
}
