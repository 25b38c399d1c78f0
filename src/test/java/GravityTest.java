/** Promises 17 to 23: datum, readings, surveys, ties, gravity and loops. */
public final class GravityTest {
    public static void main(String[] args) {
        datumAtFirst();
        readings();
        surveyWithDrift();
        driftBelowZero();
        tiesToldAgain();
        surveysThatCannotClose();
        wideSurvey();
        gravityByFewestSteps();
        gravityByTheLowest();
        longWay();
        loops();
        wrongInputs();
        wrongCallsChangeNothing();
        Check.end();
    }

    /** Tells one tie by a survey there and back. */
    private static void tell(PendulumHall hall, int from, int to, int difference) {
        hall.read(from, 0, 0);
        hall.read(to, 1, difference);
        hall.read(from, 2, 0);
        Check.due("close there and back", hall.close(), 2);
    }

    private static void datumAtFirst() {
        PendulumHall hall = new PendulumHall();
        Check.due("datum at first", hall.gravity(0), 0);
        Check.dueThrow("another one", Check.STATE, () -> hall.gravity(1));
        hall.datum(4, -1000000);
        Check.due("another datum", hall.gravity(4), -1000000);
        Check.dueThrow("the first one then", Check.STATE, () -> hall.gravity(0));
        hall.datum(4, 17);
        Check.due("the same with another value", hall.gravity(4), 17);
        Check.due("reached", hall.count(4), 1);
        hall.datum(0, 3);
        tell(hall, 0, 1, 10);
        Check.due("a tied one", hall.gravity(1), 13);
        hall.datum(1, 100);
        Check.due("ties stay", hall.gravity(0), 90);
        Check.due("the tie itself stays", hall.tie(0, 1), 10);
        hall.read(5, 7, 7);
        hall.datum(2, 0);
        Check.due("readings stay", hall.count(2), 1);
        Check.dueThrow("no ties lead there", Check.STATE, () -> hall.gravity(0));
    }

    private static void readings() {
        PendulumHall hall = new PendulumHall();
        Check.due("forget none", hall.forget(), 0);
        for (int reading = 0; reading < 12; reading++) {
            Check.due("read", hall.read(reading % 3, reading * 5, 0), reading + 1);
            Check.due("count(2)", hall.count(2), reading + 1);
        }
        Check.dueThrow("a 13th", Check.STATE, () -> hall.read(0, 56, 0));
        Check.dueThrow("a 13th, not later", Check.ILLEGAL, () -> hall.read(0, 55, 0));
        Check.dueThrow("a 13th, bad value", Check.ILLEGAL, () -> hall.read(0, 56, 1000001));
        Check.dueThrow("a 13th, no station", Check.INDEX, () -> hall.read(10, 56, 0));
        Check.due("forget 12", hall.forget(), 12);
        Check.due("forgotten", hall.count(2), 0);
        Check.due("an earlier hour is taken then", hall.read(0, 0, 0), 1);
        Check.dueThrow("the same hour", Check.ILLEGAL, () -> hall.read(1, 0, 0));
        Check.due("the hour behind it", hall.read(1, 1, 0), 2);
        Check.dueThrow("an earlier hour", Check.ILLEGAL, () -> hall.read(1, 0, 0));
        Check.due("wrong ones are not kept", hall.count(2), 2);
        Check.due("forget tells no ties", hall.forget() + hall.count(3), 2);
    }

    private static void surveyWithDrift() {
        PendulumHall hall = new PendulumHall();
        hall.read(0, 5, 100);
        hall.read(1, 15, 150);
        hall.read(2, 25, 90);
        hall.read(0, 35, 110);
        Check.due("close", hall.close(), 3);
        Check.due("no readings then", hall.count(2), 0);
        Check.due("tie(0, 1)", hall.tie(0, 1), 47);
        Check.due("tie(1, 0)", hall.tie(1, 0), -47);
        Check.due("tie(1, 2)", hall.tie(1, 2), -63);
        Check.due("tie(2, 0)", hall.tie(2, 0), 16);
        Check.due("tie(0, 2)", hall.tie(0, 2), -16);
        Check.due("pairs", hall.count(3), 3);
        Check.due("reached", hall.count(4), 3);
        Check.due("gravity(2)", hall.gravity(2), -16);
        Check.due("the loop closes", hall.loop(0, 1, 2), 0);
        Check.dueThrow("no tie to itself", Check.STATE, () -> hall.tie(1, 1));
        Check.dueThrow("no tie", Check.STATE, () -> hall.tie(1, 3));
        Check.dueThrow("closed is closed", Check.STATE, hall::close);
        Check.due("a new survey may begin earlier", hall.read(3, 0, 0), 1);
    }

    private static void driftBelowZero() {
        PendulumHall hall = new PendulumHall();
        hall.read(7, 0, 100);
        hall.read(8, 10, 150);
        hall.read(9, 20, 90);
        hall.read(7, 30, 90);
        hall.close();
        // -3.3 is -4, -6.7 is -7, and -10 is -10.
        Check.due("tie(7, 8)", hall.tie(7, 8), 54);
        Check.due("tie(8, 9)", hall.tie(8, 9), -57);
        Check.due("tie(9, 7)", hall.tie(9, 7), 3);
    }

    private static void tiesToldAgain() {
        PendulumHall hall = new PendulumHall();
        int[] stations = {0, 1, 0, 1, 0};
        int[] values = {0, 10, 0, 20, 0};
        for (int reading = 0; reading < 5; reading++) {
            hall.read(stations[reading], reading, values[reading]);
        }
        Check.due("each told again counts again", hall.close(), 4);
        Check.due("the last one stands", hall.tie(0, 1), 20);
        Check.due("the way back too", hall.tie(1, 0), -20);
        Check.due("one pair", hall.count(3), 1);
        tell(hall, 1, 0, 6);
        Check.due("another survey takes its place", hall.tie(0, 1), -6);
        Check.due("still one pair", hall.count(3), 1);
        tell(hall, 1, 0, 0);
        Check.due("a tie of 0", hall.tie(0, 1), 0);
        Check.due("a tie of 0 leads on", hall.gravity(1), 0);
        Check.due("a tie of 0 is counted", hall.count(3), 1);
    }

    private static void surveysThatCannotClose() {
        PendulumHall hall = new PendulumHall();
        Check.dueThrow("no readings", Check.STATE, hall::close);
        hall.read(3, 1, 5);
        Check.dueThrow("one", Check.STATE, hall::close);
        hall.read(4, 2, 6);
        Check.dueThrow("two", Check.STATE, hall::close);
        hall.read(5, 3, 8);
        Check.dueThrow("the last elsewhere", Check.STATE, hall::close);
        Check.due("they are kept", hall.count(2), 3);
        Check.due("no ties", hall.count(3), 0);
        hall.read(3, 9, 5);
        Check.due("one more closes it", hall.close(), 3);
        Check.due("tie", hall.tie(3, 4), 1);
        hall.read(3, 1, 0);
        hall.read(3, 2, 0);
        Check.dueThrow("two of one station", Check.STATE, hall::close);
        hall.read(3, 3, 0);
        Check.dueThrow("three of one station", Check.STATE, hall::close);
        hall.forget();
        hall.read(1, 1, 0);
        hall.read(2, 2, 0);
        hall.read(2, 3, 0);
        hall.read(1, 4, 0);
        Check.dueThrow("two in the middle", Check.STATE, hall::close);
        hall.forget();
        hall.read(1, 1, 0);
        hall.read(2, 2, 0);
        hall.read(1, 3, 0);
        hall.read(1, 4, 0);
        Check.dueThrow("two at the end", Check.STATE, hall::close);
        hall.forget();
        hall.read(1, 1, 0);
        hall.read(1, 2, 0);
        hall.read(2, 3, 0);
        hall.read(1, 4, 0);
        Check.dueThrow("two at the start", Check.STATE, hall::close);
        Check.due("they are kept", hall.forget(), 4);
    }

    private static void wideSurvey() {
        PendulumHall hall = new PendulumHall();
        hall.read(0, 0, -1000000);
        hall.read(1, 9999, -1000000);
        hall.read(0, 10000, 1000000);
        hall.close();
        // 2000000 times 9999 needs a long.
        Check.due("a wide drift", hall.tie(0, 1), -1999800);
        hall.read(2, 0, 1000000);
        hall.read(3, 1, -1000000);
        hall.read(2, 3, -1000000);
        hall.close();
        Check.due("a wide drift below 0", hall.tie(2, 3), -1333333);
        PendulumHall full = new PendulumHall();
        int[] stations = {0, 1, 2, 3, 4, 5, 6, 7, 8, 9, 1, 0};
        for (int reading = 0; reading < 12; reading++) {
            full.read(stations[reading], reading * 909, reading);
        }
        Check.due("12 readings", full.close(), 11);
        Check.due("its pairs", full.count(3), 10);
        Check.due("its reach", full.count(4), 10);
    }

    private static void gravityByFewestSteps() {
        PendulumHall hall = new PendulumHall();
        tell(hall, 0, 1, 1);
        tell(hall, 1, 2, 1);
        tell(hall, 2, 3, 1);
        Check.due("over three ties", hall.gravity(3), 3);
        tell(hall, 9, 0, -50);
        tell(hall, 3, 9, 1000);
        Check.due("over two ties", hall.gravity(3), -950);
        tell(hall, 0, 3, 7);
        Check.due("over one tie", hall.gravity(3), 7);
        Check.due("the others", hall.gravity(2), 2);
        tell(hall, 5, 6, 2);
        Check.dueThrow("apart", Check.STATE, () -> hall.gravity(5));
        Check.due("reached", hall.count(4), 5);
        Check.due("pairs", hall.count(3), 7);
        hall.datum(6, 0);
        Check.due("the other part", hall.gravity(5), -2);
        Check.due("reached from there", hall.count(4), 2);
        Check.dueThrow("apart then", Check.STATE, () -> hall.gravity(0));
    }

    private static void gravityByTheLowest() {
        PendulumHall hall = new PendulumHall();
        tell(hall, 0, 8, 10);
        tell(hall, 8, 3, 100);
        tell(hall, 0, 1, 5);
        tell(hall, 1, 3, 1);
        tell(hall, 0, 5, 2000);
        tell(hall, 5, 3, 2000);
        Check.due("by 1, not by 5 or 8", hall.gravity(3), 6);
        hall.datum(3, 0);
        Check.due("back by 1", hall.gravity(0), -6);
        // 9 is two steps away by 4 and by 7; 4 leads back by 2, 7 by 1: the last step is the one that counts.
        PendulumHall other = new PendulumHall();
        tell(other, 0, 1, 1);
        tell(other, 0, 2, 20);
        tell(other, 1, 7, 300);
        tell(other, 2, 4, 4000);
        tell(other, 7, 9, 50000);
        tell(other, 4, 9, 600000);
        Check.due("by 4 and 2", other.gravity(9), 604020);
        // A station at the same number of steps is none to come by, be it lower.
        tell(other, 1, 2, 7777);
        Check.due("not by 1", other.gravity(2), 20);
    }

    private static void longWay() {
        PendulumHall hall = new PendulumHall();
        int[] way = {0, 9, 1, 8, 2, 7, 3, 6, 4, 5};
        for (int i = 1; i < 10; i++) {
            tell(hall, way[i - 1], way[i], 1000000);
        }
        hall.datum(0, 1000000);
        Check.due("nine steps", hall.gravity(5), 10000000);
        hall.datum(5, -1000000);
        Check.due("nine steps back", hall.gravity(0), -10000000);
        Check.due("all reached", hall.count(4), 10);
        Check.due("nine pairs", hall.count(3), 9);
    }

    private static void loops() {
        PendulumHall hall = new PendulumHall();
        tell(hall, 1, 2, 10);
        tell(hall, 2, 3, 200);
        Check.dueThrow("the third tie is not there", Check.STATE, () -> hall.loop(1, 2, 3));
        Check.dueThrow("the second one", Check.STATE, () -> hall.loop(2, 3, 1));
        Check.dueThrow("the first one", Check.STATE, () -> hall.loop(3, 1, 2));
        tell(hall, 3, 1, 3000);
        Check.due("loop", hall.loop(1, 2, 3), 3210);
        Check.due("turned round", hall.loop(2, 3, 1), 3210);
        Check.due("the other way", hall.loop(3, 2, 1), -3210);
        Check.dueThrow("to itself first", Check.STATE, () -> hall.loop(1, 1, 2));
        Check.dueThrow("to itself second", Check.STATE, () -> hall.loop(1, 2, 2));
        Check.dueThrow("to itself third", Check.STATE, () -> hall.loop(1, 2, 1));
        Check.dueThrow("all to itself", Check.STATE, () -> hall.loop(1, 1, 1));
    }

    private static void wrongInputs() {
        PendulumHall hall = new PendulumHall();
        Check.dueRange("datum's station", 0, 9, Check.INDEX, station -> hall.datum(station, 0));
        Check.dueRange("datum's value", -1000000, 1000000, Check.ILLEGAL, value -> hall.datum(0, value));
        Check.dueThrow("both of datum", Check.INDEX, () -> hall.datum(10, 1000001));
        Check.dueRange("read's station", 0, 9, Check.INDEX,
                station -> new PendulumHall().read(station, 0, 0));
        Check.dueRange("read's hour", 0, 10000, Check.ILLEGAL, hour -> new PendulumHall().read(0, hour, 0));
        Check.dueRange("read's value", -1000000, 1000000, Check.ILLEGAL,
                value -> new PendulumHall().read(0, 0, value));
        Check.dueThrow("station and hour", Check.INDEX, () -> hall.read(-1, -1, 0));
        Check.dueThrow("station and value", Check.INDEX, () -> hall.read(10, 0, 1000001));
        PendulumHall tied = new PendulumHall();
        for (int station = 0; station < 10; station++) {
            int next = (station + 1) % 10;
            tell(tied, station, next, 1);
            if (next != 5 && station != 5) {
                tell(tied, 5, station, 1);
            }
        }
        Check.dueRange("gravity's station", 0, 9, Check.INDEX, tied::gravity);
        int[] none = {-1, 10, Integer.MIN_VALUE, Integer.MAX_VALUE};
        for (int station : none) {
            Check.dueThrow("tie from " + station, Check.INDEX, () -> tied.tie(station, 1));
            Check.dueThrow("tie to " + station, Check.INDEX, () -> tied.tie(1, station));
            Check.dueThrow("tie of it to itself", Check.INDEX, () -> tied.tie(station, station));
            Check.dueThrow("loop's first", Check.INDEX, () -> tied.loop(station, 1, 1));
            Check.dueThrow("loop's second", Check.INDEX, () -> tied.loop(1, station, 1));
            Check.dueThrow("loop's third", Check.INDEX, () -> tied.loop(1, 1, station));
        }
        Check.due("tie(9, 0)", tied.tie(9, 0), 1);
        Check.due("tie(0, 9)", tied.tie(0, 9), -1);
        Check.due("loop(9, 0, 5)", tied.loop(9, 0, 5), 1 - 1 + 1);
    }

    private static void wrongCallsChangeNothing() {
        PendulumHall hall = new PendulumHall();
        tell(hall, 0, 1, 8);
        hall.read(2, 100, 0);
        hall.read(3, 200, 5);
        Check.dueThrow("datum", Check.ILLEGAL, () -> hall.datum(1, -1000001));
        Check.dueThrow("datum elsewhere", Check.INDEX, () -> hall.datum(-1, 0));
        Check.dueThrow("read late", Check.ILLEGAL, () -> hall.read(0, 10001, 0));
        Check.dueThrow("read far", Check.ILLEGAL, () -> hall.read(0, 300, -1000001));
        Check.dueThrow("close", Check.STATE, hall::close);
        Check.due("gravity(0)", hall.gravity(0), 0);
        Check.due("gravity(1)", hall.gravity(1), 8);
        Check.due("the hour ahead is still 200", hall.read(2, 201, 0), 3);
        Check.due("close", hall.close(), 2);
        Check.due("tie(2, 3)", hall.tie(2, 3), 5);
        Check.due("pairs", hall.count(3), 2);
    }
}
