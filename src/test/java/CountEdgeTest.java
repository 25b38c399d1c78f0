/** Promise 38 at its boundaries, a test for each sentence that names one. */
public final class CountEdgeTest {
    public static void main(String[] args) {
        whatAtItsEnds();
        clocksFromNoneToTen();
        trustedFromNoneToTen();
        readingsFromNoneToTwelve();
        pairsOfStationsWithATie();
        pairsFromNoneToAll();
        stationsFromTheDatumAloneToAll();
        stationsOverTiesBack();
        stationsApart();
        bobsFromOneToEight();
        Check.end();
    }

    private static void count(String why, PendulumHall hall, int what, int want) {
        Check.due("38: " + why, hall.count(what), want);
    }

    private static void whatAtItsEnds() {
        PendulumHall hall = Halls.fresh();
        Check.dueThrow("38: -1", Check.ILLEGAL, () -> hall.count(-1));
        Check.dueThrow("38: 6", Check.ILLEGAL, () -> hall.count(6));
        count("0 at first", hall, 0, 0);
        count("1 at first", hall, 1, 0);
        count("2 at first", hall, 2, 0);
        count("3 at first", hall, 3, 0);
        count("4 at first", hall, 4, 1);
        count("5 at first", hall, 5, 1);
    }

    private static void clocksFromNoneToTen() {
        PendulumHall hall = Halls.fresh();
        for (int clock = 0; clock < 10; clock++) {
            count("clocks", hall, 0, clock);
            hall.clock(PendulumHall.WOOD, 0, true, 0);
        }
        count("ten clocks", hall, 0, 10);
        Check.dueThrow("an eleventh", Check.STATE, () -> hall.clock(0, 0, true, 0));
        count("still ten", hall, 0, 10);
    }

    private static void trustedFromNoneToTen() {
        PendulumHall hall = Halls.fresh();
        count("none of none", hall, 1, 0);
        for (int clock = 0; clock < 10; clock++) {
            hall.clock(PendulumHall.WOOD, 0, true, 0);
            hall.set(clock, clock % 2 == 0 ? 500 : -500);
        }
        count("all of ten", hall, 1, 10);
        // The time is 0 with five at 500 and five at -500; with one at 501 and one at -501 too.
        hall.set(0, 501);
        count("all but one", hall, 1, 9);
        hall.set(1, -501);
        count("all but two", hall, 1, 8);
        PendulumHall two = Halls.fresh();
        two.clock(PendulumHall.WOOD, 0, true, 1);
        two.clock(PendulumHall.WOOD, 0, true, 0);
        two.days(1000);
        count("both", two, 1, 2);
        two.days(1);
        count("one, by the rounded time", two, 1, 1);
        two.days(1);
        count("none", two, 1, 0);
    }

    private static void readingsFromNoneToTwelve() {
        PendulumHall hall = Halls.fresh();
        for (int reading = 0; reading < 12; reading++) {
            count("readings", hall, 2, reading);
            hall.read(reading % 2, reading, 0);
        }
        count("twelve readings", hall, 2, 12);
        Check.dueThrow("a thirteenth", Check.STATE, () -> hall.read(0, 12, 0));
        count("still twelve", hall, 2, 12);
        hall.forget();
        count("forgotten", hall, 2, 0);
        Halls.tell(hall, 0, 1, 0);
        count("closed", hall, 2, 0);
    }

    // "pairs of STATIONS with a TIE": one there and one back are one pair

    private static void pairsOfStationsWithATie() {
        PendulumHall hall = Halls.fresh();
        Halls.tell(hall, 4, 7, 3);
        count("there and back", hall, 3, 1);
        Halls.tell(hall, 7, 4, 3);
        count("back and there", hall, 3, 1);
        Halls.tell(hall, 4, 7, 0);
        count("one of 0", hall, 3, 1);
        Halls.survey(hall, 4, 0, 7, 0, 9, 0, 4, 0);
        count("two more, one again", hall, 3, 3);
        hall.datum(8, 0);
        count("not by the datum", hall, 3, 3);
    }

    private static void pairsFromNoneToAll() {
        PendulumHall hall = Halls.fresh();
        int pairs = 0;
        for (int from = 0; from < 10; from++) {
            for (int to = from + 1; to < 10; to++) {
                count("pairs", hall, 3, pairs);
                Halls.tell(hall, from, to, 1);
                pairs++;
            }
        }
        count("all pairs", hall, 3, 45);
        count("all led to", hall, 4, 10);
    }

    // "STATIONS to which TIES lead from the DATUM, that with them"

    private static void stationsFromTheDatumAloneToAll() {
        PendulumHall hall = Halls.fresh();
        count("the datum alone", hall, 4, 1);
        for (int station = 1; station < 10; station++) {
            Halls.tell(hall, station - 1, station, 0);
            count("led to by ties of 0", hall, 4, station + 1);
        }
        hall.datum(9, 0);
        count("from the other end", hall, 4, 10);
        hall.datum(5, 0);
        count("from between", hall, 4, 10);
    }

    // "a TIE leading both ways"

    private static void stationsOverTiesBack() {
        PendulumHall hall = Halls.fresh();
        hall.datum(9, 0);
        Halls.tell(hall, 0, 5, 1);
        Halls.tell(hall, 5, 9, 1);
        count("told towards the datum", hall, 4, 3);
        Check.due("22: over them", hall.gravity(0), -2);
    }

    private static void stationsApart() {
        PendulumHall hall = Halls.fresh();
        Halls.tell(hall, 1, 2, 5);
        Halls.tell(hall, 2, 3, 5);
        count("none from the datum", hall, 4, 1);
        hall.datum(2, 0);
        count("three from another", hall, 4, 3);
        hall.datum(4, 0);
        count("none from a third", hall, 4, 1);
    }

    private static void bobsFromOneToEight() {
        PendulumHall hall = Halls.fresh();
        for (int bobs = 8; bobs >= 1; bobs--) {
            hall.chain(bobs, 1, 1);
            count("bobs", hall, 5, bobs);
        }
        Check.dueThrow("none", Check.ILLEGAL, () -> hall.chain(0, 1, 1));
        Check.dueThrow("nine", Check.ILLEGAL, () -> hall.chain(9, 1, 1));
        count("still one", hall, 5, 1);
    }
}
