/** Promises 1 to 11 at their boundaries, a test for each sentence that names one. */
public final class ClocksEdgeTest {
    public static void main(String[] args) {
        newNoClocks();
        newOneBob();
        heatIsTwentyAtFirst();
        heatAtItsEnds();
        pressureIsThousandThirteenAtFirst();
        pressureAtItsEnds();
        clockNumbersFromZeroToNine();
        clockEleventhIsRefused();
        clockExceptionListedFirst();
        clockOffByZeroAtFirst();
        clockRodsAtTheirEnds();
        clockArcAtItsEnds();
        clockAdjustmentAtItsEnds();
        regulateAtItsEnds();
        regulateNoSuchClock();
        regulateKeepsTheRest();
        setAtItsEnds();
        setNoSuchClock();
        daysAtTheirEnds();
        daysTogether();
        daysWithoutClocks();
        daysInTheWeatherAsItIs();
        rateArcRoundedDown();
        rateHeatRoundedDownBelowZero();
        rateAtNoHeatAbove();
        ratePressureBesideItsFirst();
        rateQuotientsByThemselves();
        timeOfNoClock();
        timeOfOneClock();
        timeOfTwoClocks();
        timeOfThreeClocks();
        timeOfTenClocks();
        timeRoundedDownBelowZero();
        trustedAtJustFiveHundred();
        trustedBesideARoundedTime();
        trustedOfNoClock();
        Check.end();
    }

    /** A clock whose rate is its adjustment in any weather at first. */
    private static int plain(PendulumHall hall, int adjustment) {
        return hall.clock(PendulumHall.STEEL, 0, true, adjustment);
    }

    private static PendulumHall offBy(int... offs) {
        PendulumHall hall = Halls.fresh();
        for (int off : offs) {
            hall.set(plain(hall, 0), off);
        }
        return hall;
    }

    // 1: "No clocks; one bob."

    private static void newNoClocks() {
        PendulumHall hall = Halls.fresh();
        Check.due("1: no clocks", hall.count(0), 0);
        Check.due("1: none trusted", hall.count(1), 0);
        Check.dueThrow("1: rate(0)", Check.INDEX, () -> hall.rate(0));
        Check.dueThrow("1: off(0)", Check.INDEX, () -> hall.off(0));
        Check.due("1: the first clock is 0", plain(hall, 0), 0);
    }

    private static void newOneBob() {
        PendulumHall hall = Halls.fresh();
        Check.due("1: one bob", hall.count(5), 1);
        Halls.bob("1", hall, 0, 0, 0);
        Check.dueThrow("1: bob(1, place)", Check.INDEX, () -> hall.bob(1, false));
        Check.dueThrow("1: bob(1, speed)", Check.INDEX, () -> hall.bob(1, true));
        Check.dueThrow("1: pull(1)", Check.INDEX, () -> hall.pull(1, 0, 0));
    }

    // 2: "-20 to 50", "what it was", "20 at first"

    private static void heatIsTwentyAtFirst() {
        Check.due("2: heat at first", Halls.fresh().heat(0), 20);
        PendulumHall hall = Halls.fresh();
        plain(hall, 9);
        Check.due("2: the rate in the heat at first", hall.rate(0), 9);
    }

    private static void heatAtItsEnds() {
        PendulumHall hall = Halls.fresh();
        plain(hall, 0);
        hall.heat(-20);
        Check.dueThrow("2: -21", Check.ILLEGAL, () -> hall.heat(-21));
        Check.due("2: the rate at -20", hall.rate(0), 19008);
        Check.due("2: -20 it was", hall.heat(50), -20);
        Check.dueThrow("2: 51", Check.ILLEGAL, () -> hall.heat(51));
        Check.due("2: the rate at 50", hall.rate(0), -14256);
        Check.due("2: 50 it was", hall.heat(20), 50);
    }

    // 3: "900 to 1100", "what it was", "1013 at first"

    private static void pressureIsThousandThirteenAtFirst() {
        Check.due("3: pressure at first", Halls.fresh().pressure(1000), 1013);
    }

    private static void pressureAtItsEnds() {
        PendulumHall hall = Halls.fresh();
        plain(hall, 0);
        hall.pressure(900);
        Check.dueThrow("3: 899", Check.ILLEGAL, () -> hall.pressure(899));
        Check.due("3: the rate at 900", hall.rate(0), 1356);
        Check.due("3: 900 it was", hall.pressure(1100), 900);
        Check.dueThrow("3: 1101", Check.ILLEGAL, () -> hall.pressure(1101));
        Check.due("3: the rate at 1100", hall.rate(0), -1044);
        Check.due("3: 1100 it was", hall.pressure(1013), 1100);
    }

    // 4: "numbered from 0, at most 10", "if there are 10"

    private static void clockNumbersFromZeroToNine() {
        PendulumHall hall = Halls.fresh();
        for (int clock = 0; clock < 10; clock++) {
            Check.dueThrow("4: not yet", Check.INDEX, () -> hall.rate(hall.count(0)));
            Check.due("4: number", plain(hall, clock), clock);
            Check.due("4: how many", hall.count(0), clock + 1);
        }
        Check.due("4: the tenth one's rate", hall.rate(9), 9);
        Check.dueThrow("4: the eleventh one's rate", Check.INDEX, () -> hall.rate(10));
    }

    private static void clockEleventhIsRefused() {
        PendulumHall hall = offBy(1, 2, 3, 4, 5, 6, 7, 8, 9, 10);
        Check.dueThrow("4: an eleventh", Check.STATE, () -> plain(hall, 77));
        Check.due("4: ten stay", hall.count(0), 10);
        Check.due("4: the last one stays", hall.off(9), 10);
        Check.due("4: its rate stays", hall.rate(9), 0);
        Check.due("4: the first one stays", hall.off(0), 1);
    }

    private static void clockExceptionListedFirst() {
        PendulumHall hall = offBy(0, 0, 0, 0, 0, 0, 0, 0, 0, 0);
        Check.dueThrow("4: rod -1 and 10 clocks", Check.ILLEGAL, () -> hall.clock(-1, 0, true, 0));
        Check.dueThrow("4: rod 4 and 10 clocks", Check.ILLEGAL, () -> hall.clock(4, 0, true, 0));
        Check.dueThrow("4: arc -1 and 10 clocks", Check.ILLEGAL, () -> hall.clock(0, -1, true, 0));
        Check.dueThrow("4: arc 201 and 10 clocks", Check.ILLEGAL, () -> hall.clock(0, 201, false, 0));
        Check.dueThrow("4: adjustment and 10 clocks", Check.ILLEGAL, () -> hall.clock(0, 0, true, 1000001));
        Check.dueThrow("4: adjustment below and 10", Check.ILLEGAL, () -> hall.clock(0, 0, true, -1000001));
    }

    // Terms: "it is OFF by a number of milliseconds, 0 at first"

    private static void clockOffByZeroAtFirst() {
        PendulumHall hall = Halls.fresh();
        plain(hall, 500);
        hall.days(3);
        plain(hall, 500);
        Check.due("4: off by the days", hall.off(0), 1500);
        Check.due("4: off by none of the days ahead of it", hall.off(1), 0);
    }

    private static void clockRodsAtTheirEnds() {
        PendulumHall hall = Halls.fresh();
        Check.dueThrow("4: rod -1", Check.ILLEGAL, () -> hall.clock(-1, 0, true, 0));
        Check.dueThrow("4: rod 4", Check.ILLEGAL, () -> hall.clock(4, 0, true, 0));
        Check.due("4: no clock of these", hall.count(0), 0);
        hall.heat(30);
        Check.due("4: STEEL", hall.rate(hall.clock(0, 0, true, 0)), -4752);
        Check.due("4: BRASS", hall.rate(hall.clock(1, 0, true, 0)), -8208);
        Check.due("4: WOOD", hall.rate(hall.clock(2, 0, true, 0)), -2160);
        Check.due("4: INVAR", hall.rate(hall.clock(3, 0, true, 0)), -432);
    }

    private static void clockArcAtItsEnds() {
        PendulumHall hall = Halls.fresh();
        Check.dueThrow("4: arc -1", Check.ILLEGAL, () -> hall.clock(0, -1, false, 0));
        Check.dueThrow("4: arc 201", Check.ILLEGAL, () -> hall.clock(0, 201, false, 0));
        Check.dueThrow("4: arc -1 with cheeks", Check.ILLEGAL, () -> hall.clock(0, -1, true, 0));
        Check.dueThrow("4: arc 201 with cheeks", Check.ILLEGAL, () -> hall.clock(0, 201, true, 0));
        Check.due("4: no clock of these", hall.count(0), 0);
        Check.due("4: arc 0", hall.rate(hall.clock(0, 0, false, 0)), 0);
        Check.due("4: arc 200", hall.rate(hall.clock(0, 200, false, 0)), -216000);
        Check.due("4: arc 200 with cheeks", hall.rate(hall.clock(0, 200, true, 0)), 0);
    }

    private static void clockAdjustmentAtItsEnds() {
        PendulumHall hall = Halls.fresh();
        Check.dueThrow("4: adjustment -1000001", Check.ILLEGAL, () -> plain(hall, -1000001));
        Check.dueThrow("4: adjustment 1000001", Check.ILLEGAL, () -> plain(hall, 1000001));
        Check.due("4: no clock of these", hall.count(0), 0);
        Check.due("4: adjustment -1000000", hall.rate(plain(hall, -1000000)), -1000000);
        Check.due("4: adjustment 1000000", hall.rate(plain(hall, 1000000)), 1000000);
    }

    // 5: "arc 0 to 200", "adjustment -1000000 to 1000000", "the RATE then"

    private static void regulateAtItsEnds() {
        PendulumHall hall = Halls.fresh();
        hall.clock(PendulumHall.INVAR, 10, false, 3);
        Check.due("5: arc 0", hall.regulate(0, 0, 3), 3);
        Check.due("5: arc 200", hall.regulate(0, 200, 3), -215997);
        Check.dueThrow("5: arc -1", Check.ILLEGAL, () -> hall.regulate(0, -1, 4));
        Check.dueThrow("5: arc 201", Check.ILLEGAL, () -> hall.regulate(0, 201, 4));
        Check.due("5: these change nothing", hall.rate(0), -215997);
        Check.due("5: adjustment -1000000", hall.regulate(0, 0, -1000000), -1000000);
        Check.due("5: adjustment 1000000", hall.regulate(0, 0, 1000000), 1000000);
        Check.dueThrow("5: adjustment -1000001", Check.ILLEGAL, () -> hall.regulate(0, 5, -1000001));
        Check.dueThrow("5: adjustment 1000001", Check.ILLEGAL, () -> hall.regulate(0, 5, 1000001));
        Check.due("5: these change nothing", hall.rate(0), 1000000);
    }

    private static void regulateNoSuchClock() {
        PendulumHall none = Halls.fresh();
        Check.dueThrow("5: 0 of none", Check.INDEX, () -> none.regulate(0, 0, 0));
        PendulumHall one = offBy(0);
        Check.dueThrow("5: -1 of one", Check.INDEX, () -> one.regulate(-1, 0, 0));
        Check.dueThrow("5: 1 of one", Check.INDEX, () -> one.regulate(1, 0, 0));
        PendulumHall ten = offBy(0, 0, 0, 0, 0, 0, 0, 0, 0, 0);
        Check.due("5: 9 of ten", ten.regulate(9, 0, 6), 6);
        Check.dueThrow("5: 10 of ten", Check.INDEX, () -> ten.regulate(10, 0, 0));
        Check.dueThrow("5: no clock, bad arc", Check.INDEX, () -> ten.regulate(10, 201, 0));
        Check.dueThrow("5: no clock, bad adjustment", Check.INDEX, () -> ten.regulate(-1, 0, 1000001));
    }

    private static void regulateKeepsTheRest() {
        PendulumHall hall = Halls.fresh();
        hall.clock(PendulumHall.BRASS, 10, false, 3);
        hall.clock(PendulumHall.BRASS, 10, true, 3);
        hall.set(0, 66);
        hall.regulate(0, 20, 0);
        hall.regulate(1, 20, 0);
        Check.due("5: what it is off by stays", hall.off(0), 66);
        hall.heat(21);
        Check.due("5: the rod and no cheeks stay", hall.rate(0), -2160 - 820);
        Check.due("5: the rod and cheeks stay", hall.rate(1), -820);
    }

    // 6: "-1000000000 to 1000000000", "by how much it was"

    private static void setAtItsEnds() {
        PendulumHall hall = offBy(0);
        Check.due("6: off by 0 at first", hall.set(0, -1000000000), 0);
        Check.dueThrow("6: -1000000001", Check.ILLEGAL, () -> hall.set(0, -1000000001));
        Check.due("6: -1000000000 it was", hall.set(0, 1000000000), -1000000000);
        Check.dueThrow("6: 1000000001", Check.ILLEGAL, () -> hall.set(0, 1000000001));
        Check.due("6: 1000000000 it was", hall.off(0), 1000000000);
        hall.regulate(0, 0, 1000000);
        hall.days(10000);
        Check.due("6: more than can be set it was", hall.set(0, 0), 11000000000L);
        Check.due("6: the rate stays", hall.rate(0), 1000000);
    }

    private static void setNoSuchClock() {
        PendulumHall hall = offBy(5);
        Check.dueThrow("6: -1", Check.INDEX, () -> hall.set(-1, 0));
        Check.dueThrow("6: 1", Check.INDEX, () -> hall.set(1, 0));
        Check.dueThrow("6: 1 and a bad off", Check.INDEX, () -> hall.set(1, 1000000001));
        Check.dueThrow("6: -1 and a bad off", Check.INDEX, () -> hall.set(-1, -1000000001));
        Check.due("6: the clock there is stays", hall.off(0), 5);
    }

    // 7: "1 to 10000", "how many have gone by, together"

    private static void daysAtTheirEnds() {
        PendulumHall hall = Halls.fresh();
        plain(hall, 2);
        Check.dueThrow("7: 0", Check.ILLEGAL, () -> hall.days(0));
        Check.dueThrow("7: -1", Check.ILLEGAL, () -> hall.days(-1));
        Check.dueThrow("7: 10001", Check.ILLEGAL, () -> hall.days(10001));
        Check.due("7: these let no day go by", hall.off(0), 0);
        Check.due("7: 1", hall.days(1), 1);
        Check.due("7: off by a day", hall.off(0), 2);
        Check.due("7: 10000", hall.days(10000), 10001);
        Check.due("7: off by all days", hall.off(0), 20002);
    }

    private static void daysTogether() {
        PendulumHall hall = Halls.fresh();
        Check.due("7: first", hall.days(4), 4);
        Check.due("7: together", hall.days(4), 8);
        plain(hall, 1);
        Check.due("7: a new clock begins none anew", hall.days(2), 10);
        hall.chain(2, 1, 1);
        hall.set(0, 0);
        Check.due("7: nor does anything else", hall.days(1), 11);
    }

    private static void daysWithoutClocks() {
        PendulumHall hall = Halls.fresh();
        Check.due("7: without a clock", hall.days(10000), 10000);
        Check.dueThrow("7: there is still no time", Check.STATE, hall::time);
    }

    private static void daysInTheWeatherAsItIs() {
        PendulumHall hall = Halls.fresh();
        plain(hall, 0);
        hall.days(1);
        hall.heat(21);
        hall.days(1);
        Check.due("7: a day at 20, a day at 21", hall.off(0), -475);
        hall.pressure(1012);
        Check.due("7: weather alone changes no off", hall.off(0), -475);
        hall.days(2);
        Check.due("7: the rounded rate, twice", hall.off(0), -475 + 2 * (-475 + 12));
    }

    // 8: "rounded by itself", "what is above may be below 0"

    private static int rateOf(int rod, int arc, boolean hasCheeks, int heat, int pressure) {
        PendulumHall hall = Halls.fresh();
        hall.heat(heat);
        hall.pressure(pressure);
        return hall.rate(hall.clock(rod, arc, hasCheeks, 0));
    }

    private static void rateArcRoundedDown() {
        Check.due("8: arc 0", rateOf(0, 0, false, 20, 1013), 0);
        Check.due("8: 5.4 is 5", rateOf(0, 1, false, 20, 1013), -5);
        Check.due("8: 21.6 is 21", rateOf(0, 2, false, 20, 1013), -21);
        Check.due("8: 48.6 is 48", rateOf(0, 3, false, 20, 1013), -48);
        Check.due("8: 135 is 135", rateOf(0, 5, false, 20, 1013), -135);
        Check.due("8: with cheeks none", rateOf(0, 5, true, 20, 1013), 0);
    }

    private static void rateHeatRoundedDownBelowZero() {
        Check.due("8: 43.2 is 43", rateOf(3, 0, true, 21, 1013), -43);
        Check.due("8: -43.2 is -44", rateOf(3, 0, true, 19, 1013), 44);
        Check.due("8: 216 is 216", rateOf(2, 0, true, 21, 1013), -216);
        Check.due("8: -216 is -216", rateOf(2, 0, true, 19, 1013), 216);
        Check.due("8: 820.8 is 820", rateOf(1, 0, true, 21, 1013), -820);
        Check.due("8: -820.8 is -821", rateOf(1, 0, true, 19, 1013), 821);
        Check.due("8: 475.2 is 475", rateOf(0, 0, true, 21, 1013), -475);
        Check.due("8: -475.2 is -476", rateOf(0, 0, true, 19, 1013), 476);
    }

    private static void rateAtNoHeatAbove() {
        Check.due("8: at 20", rateOf(1, 0, true, 20, 1013), 0);
        Check.due("8: at 0", rateOf(3, 0, true, 0, 1013), 864);
        Check.due("8: at -1", rateOf(3, 0, true, -1, 1013), 908);
    }

    private static void ratePressureBesideItsFirst() {
        Check.due("8: at 1013", rateOf(0, 0, true, 20, 1013), 0);
        Check.due("8: at 1014", rateOf(0, 0, true, 20, 1014), -12);
        Check.due("8: at 1012", rateOf(0, 0, true, 20, 1012), 12);
    }

    private static void rateQuotientsByThemselves() {
        Check.due("8: 5.4 and 475.2 are 5 and 475", rateOf(0, 1, false, 21, 1013), -480);
        Check.due("8: 48.6 and 820.8 are 48 and 820", rateOf(1, 3, false, 21, 1013), -868);
        Check.due("8: 48.6 and -475.2 are 48 and -476", rateOf(0, 3, false, 19, 1013), 428);
        Check.due("8: 5.4 and -43.2 are 5 and -44", rateOf(3, 1, false, 19, 1014), 27);
    }

    // 10: "if there is no CLOCK", "of an even number of them the two in the middle together, by 2"

    private static void timeOfNoClock() {
        PendulumHall hall = Halls.fresh();
        Check.dueThrow("10: no clock", Check.STATE, hall::time);
        hall.set(plain(hall, 0), 8);
        Check.due("10: there is one then", hall.time(), 8);
    }

    private static void timeOfOneClock() {
        Check.due("10: one", offBy(7).time(), 7);
        Check.due("10: one below 0", offBy(-7).time(), -7);
        Check.due("10: one at the least", offBy(-1000000000).time(), -1000000000);
    }

    private static void timeOfTwoClocks() {
        Check.due("10: two", offBy(4, 8).time(), 6);
        Check.due("10: two the same", offBy(5, 5).time(), 5);
        Check.due("10: two, the later one less", offBy(9, 2).time(), 5);
        Check.due("10: two at both ends", offBy(1000000000, -1000000000).time(), 0);
        Check.due("10: two at the most", offBy(1000000000, 1000000000).time(), 1000000000);
        Check.due("10: two at the least", offBy(-1000000000, -1000000000).time(), -1000000000);
    }

    private static void timeOfThreeClocks() {
        Check.due("10: three", offBy(1, 100, 10).time(), 10);
        Check.due("10: three, the middle one first", offBy(10, 100, 1).time(), 10);
        Check.due("10: three, the middle one last", offBy(100, 1, 10).time(), 10);
    }

    private static void timeOfTenClocks() {
        Check.due("10: ten", offBy(50, 10, 90, 30, 70, 20, 80, 40, 60, 100).time(), 55);
        Check.due("10: nine", offBy(50, 10, 90, 30, 70, 20, 80, 40, 60).time(), 50);
        Check.due("10: ten, two in the middle far apart", offBy(0, 0, 0, 0, -9, 6, 7, 7, 7, 7).time(), 3);
        Check.due("10: ten the same", offBy(3, 3, 3, 3, 3, 3, 3, 3, 3, 3).time(), 3);
        Check.due("10: eight", offBy(8, 7, 6, 5, 4, 3, 2, 1).time(), 4);
    }

    private static void timeRoundedDownBelowZero() {
        Check.due("10: -1 by 2 is -1", offBy(-1, 0).time(), -1);
        Check.due("10: -3 by 2 is -2", offBy(-1, -2).time(), -2);
        Check.due("10: 1 by 2 is 0", offBy(1, 0).time(), 0);
        Check.due("10: -1 by 2 of four", offBy(-1, -50, 50, 0).time(), -1);
    }

    // 11: "TRUSTED, if it is OFF by at most 500 more or less than the TIME"

    private static void trustedAtJustFiveHundred() {
        PendulumHall hall = offBy(0, 500, -500);
        Check.due("11: just the time", hall.isTrusted(0), true);
        Check.due("11: 500 more", hall.isTrusted(1), true);
        Check.due("11: 500 less", hall.isTrusted(2), true);
        Check.due("11: all three", hall.count(1), 3);
        hall.set(1, 501);
        Check.due("11: 501 more", hall.isTrusted(1), false);
        Check.due("11: two", hall.count(1), 2);
        hall.set(2, -501);
        Check.due("11: 501 less", hall.isTrusted(2), false);
        Check.due("11: one", hall.count(1), 1);
    }

    private static void trustedBesideARoundedTime() {
        PendulumHall above = offBy(0, 1001);
        Check.due("11: the time of 0 and 1001", above.time(), 500);
        Check.due("11: 500 less than it", above.isTrusted(0), true);
        Check.due("11: 501 more than it", above.isTrusted(1), false);
        PendulumHall below = offBy(0, -1001);
        Check.due("11: the time of 0 and -1001", below.time(), -501);
        Check.due("11: 501 more than that", below.isTrusted(0), false);
        Check.due("11: 500 less than that", below.isTrusted(1), true);
        Check.due("11: none of two", offBy(0, 1002).count(1), 0);
        Check.due("11: one alone", offBy(-1000000000).count(1), 1);
    }

    private static void trustedOfNoClock() {
        PendulumHall none = Halls.fresh();
        Check.dueThrow("11: 0 of none", Check.INDEX, () -> none.isTrusted(0));
        PendulumHall ten = offBy(0, 0, 0, 0, 0, 0, 0, 0, 0, 0);
        Check.due("11: 9 of ten", ten.isTrusted(9), true);
        Check.dueThrow("11: 10 of ten", Check.INDEX, () -> ten.isTrusted(10));
        Check.dueThrow("11: -1 of ten", Check.INDEX, () -> ten.isTrusted(-1));
        Check.dueThrow("9: 10 of ten", Check.INDEX, () -> ten.off(10));
        Check.dueThrow("9: -1 of ten", Check.INDEX, () -> ten.off(-1));
        Check.dueThrow("8: -1 of ten", Check.INDEX, () -> ten.rate(-1));
        Check.due("9: 9 of ten", ten.off(9), 0);
    }
}
