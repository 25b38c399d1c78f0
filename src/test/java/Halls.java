/** Halls for the tests: in three states, each made anew by the same calls, and one to ask. */
final class Halls {
    /** Makes one hall; two that it makes answer the same. */
    interface Maker {
        PendulumHall make();
    }

    private static final int CALLS = 512;

    private static PendulumHall shared = new PendulumHall();
    private static int used = 0;

    private Halls() {
    }

    /** A hall for one call whose answer needs no state; none is handed out more than 512 times. */
    static PendulumHall asked() {
        if (used == CALLS) {
            shared = new PendulumHall();
            used = 0;
        }
        used++;
        return shared;
    }

    static PendulumHall fresh() {
        return new PendulumHall();
    }

    /** Three clocks, four stations tied, three readings that can be closed, three bobs that are driven. */
    static PendulumHall busy() {
        PendulumHall hall = new PendulumHall();
        hall.clock(PendulumHall.STEEL, 30, false, 5000);
        hall.clock(PendulumHall.BRASS, 40, true, -700);
        hall.days(3);
        hall.heat(27);
        hall.clock(PendulumHall.WOOD, 7, false, 12);
        hall.pressure(1001);
        hall.days(2);
        hall.set(1, -12345);
        survey(hall, 3, 0, 2, 140, 8, -75, 3, 9);
        survey(hall, 2, 3, 4, 17, 2, 0);
        hall.datum(2, 981);
        hall.read(5, 10, 100);
        hall.read(6, 20, 170);
        hall.read(5, 40, 90);
        hall.chain(3, 5, 2);
        hall.pull(0, -40, 25);
        hall.pull(1, 60, -7);
        hall.pull(2, 11, 90);
        hall.drive(7, 13);
        hall.step(4);
        return hall;
    }

    /** Ten clocks, all stations tied to all, twelve readings that can be closed, eight bobs that are free. */
    static PendulumHall full() {
        PendulumHall hall = new PendulumHall();
        for (int clock = 0; clock < 10; clock++) {
            hall.clock(clock % 4, 10 * clock, clock % 3 == 0, 100 * clock - 350);
        }
        hall.days(4);
        tieAll(hall);
        hall.datum(9, -981);
        for (int reading = 0; reading < 12; reading++) {
            hall.read(reading == 11 ? 5 : (5 + reading % 4) % 10, 100 * reading, 3 * reading * reading);
        }
        hall.chain(8, 3, 4);
        for (int bob = 0; bob < 8; bob++) {
            hall.pull(bob, 50 * bob - 200, 9 * bob + 1);
        }
        hall.step(2);
        return hall;
    }

    /** Each station with each other one is told by a way there and back, five pairs in a survey. */
    private static void tieAll(PendulumHall hall) {
        for (int first = 0; first < 10; first++) {
            int hour = 0;
            hall.read(first, hour, 0);
            for (int other = first + 1; other < 10; other++) {
                if (hour == 10) {
                    hall.close();
                    hour = 0;
                    hall.read(first, hour, 0);
                }
                hall.read(other, hour + 1, 7 * first - 11 * other + first * other);
                hall.read(first, hour + 2, 0);
                hour += 2;
            }
            if (hour == 0) {
                hall.forget();
            } else {
                hall.close();
            }
        }
    }

    /** Closes a survey whose readings are told as station and value, ten hours apart. */
    static void survey(PendulumHall hall, int... told) {
        for (int i = 0; i + 1 < told.length; i += 2) {
            hall.read(told[i], 5 * i, told[i + 1]);
        }
        Check.due("close", hall.close(), told.length / 2 - 1);
    }

    /** Tells one tie by a survey there and back without a drift. */
    static void tell(PendulumHall hall, int from, int to, int difference) {
        survey(hall, from, 0, to, difference, from, 0);
    }

    static void bob(String call, PendulumHall hall, int bob, int place, int speed) {
        Check.due(call + ": place of " + bob, hall.bob(bob, false), place);
        Check.due(call + ": speed of " + bob, hall.bob(bob, true), speed);
    }
}
