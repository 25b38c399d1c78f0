/** Promises 17 to 23 at their boundaries, a test for each sentence that names one. */
public final class GravityEdgeTest {
    private static final int MILLION = 1000000;

    public static void main(String[] args) {
        datumAtFirst();
        datumAtItsEnds();
        datumElsewhereAllElseStays();
        readAtItsEnds();
        readHourThatIsNotLater();
        readAnyHourBehindNone();
        readTwelveAndNoMore();
        readExceptionListedFirst();
        closeOfNoneToTwo();
        closeOfThree();
        closeOfTwelve();
        closeLastOfAnotherStation();
        closeTwoOfTheSameStation();
        closeTheSameStationFurtherApart();
        closeLeavesNoReadings();
        closeThatIsRefusedChangesNothing();
        closeCountsTiesToldAgain();
        driftOfNone();
        driftRoundedDown();
        driftRoundedDownBelowZero();
        driftAtItsWidest();
        tiesByTheirOrder();
        forgetNoneAndTwelve();
        tieOfZero();
        tieToItself();
        tieBackByTheOtherSign();
        tieOfNoStation();
        gravityOfTheDatum();
        gravityWhereNoTiesLead();
        gravityOverATieOfZero();
        gravityOverNineSteps();
        gravityByFewestSteps();
        gravityByTheLowestStation();
        gravityAtItsWidest();
        loopThatCloses();
        loopThatDoesNot();
        loopWithoutATie();
        loopOfTheSameStation();
        loopOfNoStation();
        Check.end();
    }

    /** Reads stations an hour apart from the hour 0 on; told is station, value, station, value .. */
    private static PendulumHall open(int... told) {
        PendulumHall hall = Halls.fresh();
        for (int i = 0; i < told.length; i += 2) {
            hall.read(told[i], i / 2, told[i + 1]);
        }
        return hall;
    }

    // 17: "the STATION 0 with 0 at first", "0 to 9", "-1000000 to 1000000"

    private static void datumAtFirst() {
        PendulumHall hall = Halls.fresh();
        Check.due("17: the datum at first", hall.gravity(0), 0);
        Check.dueThrow("17: none other", Check.STATE, () -> hall.gravity(1));
        Check.due("17: reached at first", hall.count(4), 1);
    }

    private static void datumAtItsEnds() {
        PendulumHall hall = Halls.fresh();
        hall.datum(9, -MILLION);
        Check.due("17: 9 with -1000000", hall.gravity(9), -MILLION);
        Check.dueThrow("17: 10", Check.INDEX, () -> hall.datum(10, 0));
        Check.dueThrow("17: -1", Check.INDEX, () -> hall.datum(-1, 0));
        Check.dueThrow("17: -1000001", Check.ILLEGAL, () -> hall.datum(0, -MILLION - 1));
        Check.dueThrow("17: 1000001", Check.ILLEGAL, () -> hall.datum(0, MILLION + 1));
        Check.dueThrow("17: 10 and 1000001", Check.INDEX, () -> hall.datum(10, MILLION + 1));
        Check.due("17: these change nothing", hall.gravity(9), -MILLION);
        hall.datum(0, MILLION);
        Check.due("17: 0 with 1000000", hall.gravity(0), MILLION);
        Check.dueThrow("17: the one ahead is none then", Check.STATE, () -> hall.gravity(9));
    }

    private static void datumElsewhereAllElseStays() {
        PendulumHall hall = Halls.fresh();
        Halls.tell(hall, 0, 1, 10);
        hall.read(7, 5, 5);
        hall.datum(1, 100);
        Check.due("17: its own value", hall.gravity(1), 100);
        Check.due("17: the first one's value is gone", hall.gravity(0), 90);
        Check.due("17: the tie stays", hall.tie(0, 1), 10);
        Check.due("17: the reading stays", hall.count(2), 1);
        hall.datum(1, -3);
        Check.due("17: the same one with another value", hall.gravity(0), -13);
    }

    // 18: "hour 0 to 10000", "value -1000000 to 1000000", "each later than the one ahead"

    private static void readAtItsEnds() {
        PendulumHall hall = Halls.fresh();
        Check.dueThrow("18: hour -1", Check.ILLEGAL, () -> hall.read(0, -1, 0));
        Check.dueThrow("18: hour 10001", Check.ILLEGAL, () -> hall.read(0, 10001, 0));
        Check.dueThrow("18: value -1000001", Check.ILLEGAL, () -> hall.read(0, 0, -MILLION - 1));
        Check.dueThrow("18: value 1000001", Check.ILLEGAL, () -> hall.read(0, 0, MILLION + 1));
        Check.dueThrow("18: station -1", Check.INDEX, () -> hall.read(-1, 0, 0));
        Check.dueThrow("18: station 10", Check.INDEX, () -> hall.read(10, 0, 0));
        Check.due("18: none of these is kept", hall.count(2), 0);
        Check.due("18: station 0, hour 0, value -1000000", hall.read(0, 0, -MILLION), 1);
        Check.due("18: station 9, hour 1, value 1000000", hall.read(9, 1, MILLION), 2);
        Check.due("18: hour 10000", hall.read(0, 10000, -MILLION), 3);
        Check.dueThrow("18: no hour is later than 10000", Check.ILLEGAL, () -> hall.read(1, 10000, 0));
        hall.close();
        Check.due("18: they were read as told", hall.tie(0, 9), 2 * MILLION);
    }

    private static void readHourThatIsNotLater() {
        PendulumHall hall = Halls.fresh();
        hall.read(5, 100, 0);
        Check.dueThrow("18: an hour less", Check.ILLEGAL, () -> hall.read(6, 99, 0));
        Check.dueThrow("18: the same hour", Check.ILLEGAL, () -> hall.read(6, 100, 0));
        Check.dueThrow("18: the same hour, the same station", Check.ILLEGAL, () -> hall.read(5, 100, 0));
        Check.due("18: these are not kept", hall.count(2), 1);
        Check.due("18: an hour more", hall.read(6, 101, 0), 2);
        Check.dueThrow("18: later than the first one alone", Check.ILLEGAL, () -> hall.read(7, 101, 0));
        Check.due("18: the same station is read", hall.read(6, 102, 0), 3);
    }

    private static void readAnyHourBehindNone() {
        PendulumHall hall = open(0, 0, 1, 5, 0, 0);
        hall.close();
        Check.due("18: hour 0 behind a closed one", hall.read(3, 0, 0), 1);
        hall.forget();
        Check.due("18: hour 0 behind forgotten ones", hall.read(4, 0, 0), 1);
        Check.dueThrow("18: but not twice", Check.ILLEGAL, () -> hall.read(4, 0, 0));
    }

    // "READINGS, at most 12", "if there are 12"

    private static void readTwelveAndNoMore() {
        PendulumHall hall = Halls.fresh();
        for (int reading = 1; reading <= 12; reading++) {
            Check.due("18: how many then", hall.read(reading % 2, reading, 0), reading);
        }
        Check.dueThrow("18: a thirteenth", Check.STATE, () -> hall.read(1, 13, 0));
        Check.due("18: twelve stay", hall.count(2), 12);
        Check.due("18: forgotten", hall.forget(), 12);
        Check.due("18: one again", hall.read(1, 13, 0), 1);
    }

    private static void readExceptionListedFirst() {
        PendulumHall hall = Halls.fresh();
        for (int reading = 1; reading <= 12; reading++) {
            hall.read(reading % 2, reading, 0);
        }
        Check.dueThrow("18: station 10, hour 12, and 12", Check.INDEX, () -> hall.read(10, 12, 0));
        Check.dueThrow("18: station -1 and 12", Check.INDEX, () -> hall.read(-1, 13, MILLION + 1));
        Check.dueThrow("18: hour 12 and 12", Check.ILLEGAL, () -> hall.read(0, 12, 0));
        Check.dueThrow("18: hour 10001 and 12", Check.ILLEGAL, () -> hall.read(0, 10001, 0));
        Check.dueThrow("18: value and 12", Check.ILLEGAL, () -> hall.read(0, 13, -MILLION - 1));
    }

    // 19: "To close it needs at least 3"

    private static void closeOfNoneToTwo() {
        Check.dueThrow("19: none", Check.STATE, () -> Halls.fresh().close());
        Check.dueThrow("19: one", Check.STATE, () -> open(4, 1).close());
        Check.dueThrow("19: two", Check.STATE, () -> open(4, 1, 5, 2).close());
        Check.dueThrow("19: two of the same", Check.STATE, () -> open(4, 1, 4, 2).close());
    }

    private static void closeOfThree() {
        PendulumHall hall = open(4, 0, 5, 7, 4, 0);
        Check.due("19: three", hall.close(), 2);
        Check.due("19: their tie", hall.tie(4, 5), 7);
        Check.due("19: one pair", hall.count(3), 1);
    }

    private static void closeOfTwelve() {
        PendulumHall hall = open(0, 0, 1, 1, 2, 3, 3, 6, 4, 10, 5, 15, 6, 21, 7, 28, 8, 36, 9, 45, 8, 36, 0, 0);
        Check.due("19: twelve", hall.close(), 11);
        Check.due("19: the first tie", hall.tie(0, 1), 1);
        Check.due("19: the last but one", hall.tie(9, 8), -9);
        Check.due("19: the last one", hall.tie(8, 0), -36);
        Check.due("19: ten pairs", hall.count(3), 10);
    }

    // "the last one of the STATION of the first one"

    private static void closeLastOfAnotherStation() {
        PendulumHall hall = open(0, 0, 1, 5, 2, 9);
        Check.dueThrow("19: the last one elsewhere", Check.STATE, hall::close);
        hall.read(1, 3, 5);
        Check.dueThrow("19: the last one of the second", Check.STATE, hall::close);
        hall.read(0, 4, 0);
        Check.due("19: the last one of the first", hall.close(), 4);
    }

    // "with no two one behind the other of the same STATION"

    private static void closeTwoOfTheSameStation() {
        Check.dueThrow("19: at the start", Check.STATE, () -> open(0, 0, 0, 0, 1, 5, 0, 0).close());
        Check.dueThrow("19: in the middle", Check.STATE, () -> open(0, 0, 1, 5, 1, 5, 0, 0).close());
        Check.dueThrow("19: at the end", Check.STATE, () -> open(0, 0, 1, 5, 0, 0, 0, 0).close());
        Check.dueThrow("19: three of one", Check.STATE, () -> open(3, 0, 3, 0, 3, 0).close());
        Check.dueThrow("19: the last two of twelve", Check.STATE,
                () -> open(0, 0, 1, 0, 2, 0, 1, 0, 2, 0, 1, 0, 2, 0, 1, 0, 2, 0, 1, 0, 0, 0, 0, 0).close());
        Check.dueThrow("19: the first two of twelve", Check.STATE,
                () -> open(0, 0, 0, 0, 2, 0, 1, 0, 2, 0, 1, 0, 2, 0, 1, 0, 2, 0, 1, 0, 2, 0, 0, 0).close());
    }

    private static void closeTheSameStationFurtherApart() {
        PendulumHall hall = open(0, 0, 1, 5, 0, 0, 1, 5, 0, 0);
        Check.due("19: the same station further apart", hall.close(), 4);
    }

    // "the survey has no READINGS then"

    private static void closeLeavesNoReadings() {
        PendulumHall hall = open(0, 0, 1, 5, 0, 0);
        hall.close();
        Check.due("19: none then", hall.count(2), 0);
        Check.due("20: none to forget", hall.forget(), 0);
        Check.dueThrow("19: nor to close", Check.STATE, hall::close);
        hall.read(1, 3, 0);
        hall.read(0, 4, 9);
        Check.dueThrow("19: those ahead don't count", Check.STATE, hall::close);
    }

    private static void closeThatIsRefusedChangesNothing() {
        PendulumHall hall = open(0, 0, 1, 5, 1, 6);
        Check.dueThrow("19: refused", Check.STATE, hall::close);
        Check.due("19: no ties", hall.count(3), 0);
        Check.due("19: all readings", hall.count(2), 3);
        Check.dueThrow("19: the hour ahead stays", Check.ILLEGAL, () -> hall.read(0, 2, 0));
        Check.due("20: all of them", hall.forget(), 3);
    }

    // "each told again counted again: one less than there were READINGS", "in place of what there was"

    private static void closeCountsTiesToldAgain() {
        PendulumHall hall = open(0, 0, 1, 5, 0, 0, 1, 8, 0, 0, 1, 9, 0, 0);
        Check.due("19: six", hall.close(), 6);
        Check.due("19: of one pair", hall.count(3), 1);
        Check.due("19: the last one stands", hall.tie(0, 1), 9);
        Halls.survey(hall, 1, 0, 0, -2, 1, 0);
        Check.due("19: another survey in its place", hall.tie(0, 1), 2);
        Check.due("19: there and back", hall.tie(1, 0), -2);
    }

    // "the last value less the first one, times the hours since the first one, by the hours .."

    private static void driftOfNone() {
        PendulumHall hall = open(0, 50, 1, 57, 2, 40, 0, 50);
        hall.close();
        Check.due("19: no drift", hall.tie(0, 1), 7);
        Check.due("19: no drift, second", hall.tie(1, 2), -17);
        Check.due("19: no drift, third", hall.tie(2, 0), 10);
    }

    private static void driftRoundedDown() {
        PendulumHall hall = Halls.fresh();
        hall.read(0, 10, 50);
        hall.read(1, 11, 50);
        hall.read(2, 12, 50);
        hall.read(0, 13, 51);
        hall.close();
        // 0, 1 by 3, 2 by 3, 1: taken off are 0, 0, 0 and 1.
        Check.due("19: 1 by 3 is 0", hall.tie(0, 1), 0);
        Check.due("19: 2 by 3 is 0", hall.tie(1, 2), 0);
        Check.due("19: 3 by 3 is 1", hall.tie(2, 0), 0);
        Halls.survey(hall, 3, 0, 4, 0, 3, 1);
        Check.due("19: 1 by 2 is 0", hall.tie(3, 4), 0);
        Halls.survey(hall, 5, 0, 6, 0, 5, 3);
        Check.due("19: 3 by 2 is 1", hall.tie(5, 6), -1);
    }

    private static void driftRoundedDownBelowZero() {
        PendulumHall hall = Halls.fresh();
        hall.read(0, 10, 50);
        hall.read(1, 11, 50);
        hall.read(2, 12, 50);
        hall.read(0, 13, 49);
        hall.close();
        // 0, -1 by 3, -2 by 3, -1: taken off are 0, -1, -1 and -1.
        Check.due("19: -1 by 3 is -1", hall.tie(0, 1), 1);
        Check.due("19: -2 by 3 is -1", hall.tie(1, 2), 0);
        Check.due("19: -3 by 3 is -1", hall.tie(2, 0), -1);
        Halls.survey(hall, 3, 0, 4, 0, 3, -1);
        Check.due("19: -1 by 2 is -1", hall.tie(3, 4), 1);
    }

    private static void driftAtItsWidest() {
        PendulumHall hall = Halls.fresh();
        hall.read(0, 0, -MILLION);
        hall.read(1, 9999, MILLION);
        hall.read(0, 10000, MILLION);
        hall.close();
        Check.due("19: 2000000 times 9999 by 10000", hall.tie(0, 1), 2 * MILLION - 1999800);
        hall.read(2, 0, MILLION);
        hall.read(3, 9999, -MILLION);
        hall.read(4, 10000, -MILLION);
        Check.dueThrow("19: not closed yet", Check.STATE, hall::close);
        hall.forget();
        hall.read(2, 0, MILLION);
        hall.read(3, 3333, -MILLION);
        hall.read(2, 10000, -MILLION);
        hall.close();
        Check.due("19: -2000000 times 3333 by 10000", hall.tie(2, 3), -2 * MILLION + 666600);
    }

    // "for each two one behind the other, by their order"

    private static void tiesByTheirOrder() {
        PendulumHall hall = open(2, 0, 1, 5, 2, 100, 1, 7, 2, 0);
        hall.close();
        // 5, -95, -93, 7 told as 2 to 1, 1 to 2, 2 to 1, 1 to 2: the last one is 0 less 7.
        Check.due("19: the last one by order", hall.tie(1, 2), -7);
        Check.due("19: and back", hall.tie(2, 1), 7);
    }

    // 20: "how many there were"

    private static void forgetNoneAndTwelve() {
        PendulumHall hall = Halls.fresh();
        Check.due("20: none", hall.forget(), 0);
        hall.read(0, 0, 0);
        Check.due("20: one", hall.forget(), 1);
        Check.due("20: none again", hall.forget(), 0);
        for (int reading = 0; reading < 12; reading++) {
            hall.read(reading % 2, reading, 0);
        }
        Check.due("20: twelve", hall.forget(), 12);
        Check.due("20: no readings then", hall.count(2), 0);
        Check.due("20: no ties by that", hall.count(3), 0);
    }

    // 21: "there are none at first, and from a STATION to itself there is never one"

    private static void tieOfZero() {
        PendulumHall hall = Halls.fresh();
        Check.dueThrow("21: none at first", Check.STATE, () -> hall.tie(0, 9));
        Halls.tell(hall, 0, 9, 0);
        Check.due("21: a tie of 0", hall.tie(0, 9), 0);
        Check.due("21: back too", hall.tie(9, 0), 0);
        Check.due("21: it is a pair", hall.count(3), 1);
        Check.dueThrow("21: not to others", Check.STATE, () -> hall.tie(0, 8));
    }

    private static void tieToItself() {
        PendulumHall hall = Halls.fresh();
        Halls.tell(hall, 0, 1, 3);
        for (int station = 0; station < 10; station++) {
            int asked = station;
            Check.dueThrow("21: to itself", Check.STATE, () -> hall.tie(asked, asked));
        }
    }

    private static void tieBackByTheOtherSign() {
        PendulumHall hall = Halls.fresh();
        Halls.tell(hall, 8, 9, -12);
        Check.due("21: there", hall.tie(8, 9), -12);
        Check.due("21: back", hall.tie(9, 8), 12);
    }

    private static void tieOfNoStation() {
        PendulumHall hall = Halls.fresh();
        int[][] bad = {{-1, 0}, {10, 0}, {0, -1}, {0, 10}, {-1, -1}, {10, 10}};
        for (int[] a : bad) {
            Check.dueThrow("21: no station", Check.INDEX, () -> hall.tie(a[0], a[1]));
        }
    }

    // 22: "The GRAVITY of the DATUM is its value", "if no TIES lead there from the DATUM"

    private static void gravityOfTheDatum() {
        PendulumHall hall = Halls.fresh();
        hall.datum(5, 77);
        Check.due("22: without ties", hall.gravity(5), 77);
        Halls.survey(hall, 5, 0, 6, 10, 7, 25, 5, 0);
        Check.due("22: with a loop round it", hall.gravity(5), 77);
    }

    private static void gravityWhereNoTiesLead() {
        PendulumHall hall = Halls.fresh();
        Halls.tell(hall, 1, 2, 5);
        Check.dueThrow("22: tied, but not to the datum", Check.STATE, () -> hall.gravity(1));
        Check.dueThrow("22: not tied at all", Check.STATE, () -> hall.gravity(9));
        Check.dueThrow("22: no station -1", Check.INDEX, () -> hall.gravity(-1));
        Check.dueThrow("22: no station 10", Check.INDEX, () -> hall.gravity(10));
        hall.datum(2, 0);
        Check.due("22: from there they lead", hall.gravity(1), -5);
        Check.dueThrow("22: not to the first datum", Check.STATE, () -> hall.gravity(0));
    }

    private static void gravityOverATieOfZero() {
        PendulumHall hall = Halls.fresh();
        hall.datum(0, 5);
        Halls.tell(hall, 0, 1, 0);
        Halls.tell(hall, 1, 2, 0);
        Check.due("22: over one of 0", hall.gravity(1), 5);
        Check.due("22: over two of 0", hall.gravity(2), 5);
        Check.due("38: all are led to", hall.count(4), 3);
    }

    private static void gravityOverNineSteps() {
        PendulumHall hall = Halls.fresh();
        for (int station = 9; station > 0; station--) {
            Halls.tell(hall, station, station - 1, 1 << station);
        }
        hall.datum(9, 1);
        Check.due("22: nine steps", hall.gravity(0), 1 + 1022);
        Check.due("22: eight steps", hall.gravity(1), 1 + 1020);
        hall.datum(0, 0);
        Check.due("22: nine steps back", hall.gravity(9), -1022);
        Check.due("38: ten with the datum", hall.count(4), 10);
    }

    // "the least number of TIES over which it is come to"

    private static void gravityByFewestSteps() {
        PendulumHall hall = Halls.fresh();
        Halls.tell(hall, 0, 1, 1);
        Halls.tell(hall, 1, 2, 10);
        Halls.tell(hall, 2, 9, 100);
        Check.due("22: three steps", hall.gravity(9), 111);
        Halls.tell(hall, 0, 8, 2000);
        Halls.tell(hall, 8, 9, 3000);
        Check.due("22: two steps, by a higher station", hall.gravity(9), 5000);
        Halls.tell(hall, 0, 9, 40000);
        Check.due("22: one step", hall.gravity(9), 40000);
        Check.due("22: the others by fewest steps too", hall.gravity(2), 11);
    }

    // "the lowest STATION that has a TIE to it and one STEP less"

    private static void gravityByTheLowestStation() {
        PendulumHall hall = Halls.fresh();
        hall.datum(5, 0);
        Halls.tell(hall, 5, 9, 1);
        Halls.tell(hall, 9, 3, 10);
        Check.due("22: by 9", hall.gravity(3), 11);
        Halls.tell(hall, 5, 8, 200);
        Halls.tell(hall, 8, 3, 1000);
        Check.due("22: by 8", hall.gravity(3), 1200);
        Halls.tell(hall, 5, 0, 30000);
        Halls.tell(hall, 0, 3, 40000);
        Check.due("22: by 0", hall.gravity(3), 70000);
        Halls.tell(hall, 3, 1, 500000);
        Halls.tell(hall, 1, 4, 7);
        Halls.tell(hall, 4, 3, 7);
        Check.due("22: those of more steps are none", hall.gravity(3), 70000);
        Halls.tell(hall, 0, 8, 999);
        Check.due("22: one of the same steps is none", hall.gravity(8), 200);
    }

    private static void gravityAtItsWidest() {
        PendulumHall hall = Halls.fresh();
        for (int station = 0; station < 9; station++) {
            hall.read(station, 0, -MILLION);
            hall.read(station + 1, 1, MILLION);
            hall.read(station, 10000, -MILLION);
            hall.close();
        }
        hall.datum(0, MILLION);
        Check.due("22: the most", hall.gravity(9), 19L * MILLION);
        hall.datum(9, -MILLION);
        Check.due("22: the least", hall.gravity(0), -19L * MILLION);
    }

    // 23

    private static void loopThatCloses() {
        PendulumHall hall = open(0, 3, 4, 11, 9, -20, 0, 9);
        hall.close();
        Check.due("23: closed", hall.loop(0, 4, 9), 0);
        Check.due("23: the other way", hall.loop(9, 4, 0), 0);
    }

    private static void loopThatDoesNot() {
        PendulumHall hall = Halls.fresh();
        Halls.tell(hall, 0, 4, 1);
        Halls.tell(hall, 4, 9, 1);
        Halls.tell(hall, 9, 0, -3);
        Check.due("23: by 1 less", hall.loop(0, 4, 9), -1);
        Check.due("23: begun elsewhere", hall.loop(4, 9, 0), -1);
        Check.due("23: the other way", hall.loop(9, 4, 0), 1);
    }

    private static void loopWithoutATie() {
        PendulumHall hall = Halls.fresh();
        Halls.tell(hall, 1, 2, 1);
        Halls.tell(hall, 2, 3, 1);
        Check.dueThrow("23: without the third", Check.STATE, () -> hall.loop(1, 2, 3));
        Check.dueThrow("23: without the second", Check.STATE, () -> hall.loop(2, 3, 1));
        Check.dueThrow("23: without the first", Check.STATE, () -> hall.loop(3, 1, 2));
        Check.dueThrow("23: without any", Check.STATE, () -> hall.loop(7, 8, 9));
    }

    private static void loopOfTheSameStation() {
        PendulumHall hall = Halls.fresh();
        Halls.tell(hall, 1, 2, 1);
        Check.dueThrow("23: first and second", Check.STATE, () -> hall.loop(1, 1, 2));
        Check.dueThrow("23: second and third", Check.STATE, () -> hall.loop(1, 2, 2));
        Check.dueThrow("23: third and first", Check.STATE, () -> hall.loop(1, 2, 1));
        Check.dueThrow("23: all", Check.STATE, () -> hall.loop(1, 1, 1));
    }

    private static void loopOfNoStation() {
        PendulumHall hall = Halls.fresh();
        int[][] bad = {{-1, 0, 0}, {10, 1, 2}, {0, -1, 0}, {1, 10, 2}, {0, 0, -1}, {1, 2, 10}};
        for (int[] a : bad) {
            Check.dueThrow("23: no station", Check.INDEX, () -> hall.loop(a[0], a[1], a[2]));
        }
    }
}
