/** Promises 1 to 11: a new object, weather, clocks, days and the time. */
public final class ClocksTest {
    public static void main(String[] args) {
        newObject();
        weather();
        rates();
        quotientsRoundedAlone();
        making();
        regulating();
        setting();
        daysGoBy();
        timeInTheMiddle();
        trust();
        wrongCallsChangeNothing();
        Check.end();
    }

    private static int made(PendulumHall hall, int adjustment) {
        return hall.clock(PendulumHall.INVAR, 0, true, adjustment);
    }

    private static void newObject() {
        PendulumHall hall = new PendulumHall();
        Check.due("new count(0)", hall.count(0), 0);
        Check.due("new count(1)", hall.count(1), 0);
        Check.due("new count(2)", hall.count(2), 0);
        Check.due("new count(3)", hall.count(3), 0);
        Check.due("new count(4)", hall.count(4), 1);
        Check.due("new count(5)", hall.count(5), 1);
        Check.due("new bob place", hall.bob(0, false), 0);
        Check.due("new bob speed", hall.bob(0, true), 0);
        Check.due("new energy", hall.energy(), 0);
        Check.due("new gravity(0)", hall.gravity(0), 0);
        Check.due("new forget", hall.forget(), 0);
        Check.dueThrow("new time", Check.STATE, hall::time);
        Check.dueThrow("new rate(0)", Check.INDEX, () -> hall.rate(0));
        Check.due("new days(3)", hall.days(3), 3);
        Check.due("new step", hall.step(5), 5);
        Check.due("new bob behind steps", hall.bob(0, false), 0);
        hall.pull(0, 100, 16);
        Check.due("no weight, no air at first", hall.step(1), 1);
        Check.due("new speed stays", hall.bob(0, true), 16);
        Check.due("new energy counts no places", hall.energy(), 16 * 256);
        Check.due("no air, no push at first", hall.back(1), 1);
        Check.due("first clock", made(hall, 7), 0);
        Check.due("first clock off", hall.off(0), 0);
        Check.due("weather at first", hall.rate(0), 7);
    }

    private static void weather() {
        PendulumHall hall = new PendulumHall();
        Check.due("heat at first", hall.heat(-20), 20);
        Check.due("heat told", hall.heat(50), -20);
        Check.due("heat told again", hall.heat(50), 50);
        Check.due("heat again", hall.heat(0), 50);
        Check.due("pressure at first", hall.pressure(900), 1013);
        Check.due("pressure told", hall.pressure(1100), 900);
        Check.due("pressure told again", hall.pressure(1100), 1100);
        Check.dueRange("heat", -20, 50, Check.ILLEGAL, heat -> new PendulumHall().heat(heat));
        Check.dueRange("pressure", 900, 1100, Check.ILLEGAL, bar -> new PendulumHall().pressure(bar));
    }

    private static int rateOf(int rod, int arc, boolean hasCheeks, int adjustment, int heat, int pressure) {
        PendulumHall hall = new PendulumHall();
        hall.heat(heat);
        hall.pressure(pressure);
        return hall.rate(hall.clock(rod, arc, hasCheeks, adjustment));
    }

    private static void rates() {
        Check.due("adjustment alone", rateOf(0, 200, true, -33, 20, 1013), -33);
        Check.due("arc 1", rateOf(0, 1, false, 0, 20, 1013), -5);
        Check.due("arc 3", rateOf(0, 3, false, 0, 20, 1013), -48);
        Check.due("arc 10", rateOf(0, 10, false, 1000, 20, 1013), 460);
        Check.due("arc 200", rateOf(0, 200, false, 0, 20, 1013), -216000);
        Check.due("steel, 1 above", rateOf(0, 9, true, 0, 21, 1013), -475);
        Check.due("steel, 1 below", rateOf(0, 9, true, 0, 19, 1013), 476);
        Check.due("brass, 1 above", rateOf(1, 9, true, 0, 21, 1013), -820);
        Check.due("brass, 1 below", rateOf(1, 9, true, 0, 19, 1013), 821);
        Check.due("wood, 1 above", rateOf(2, 9, true, 0, 21, 1013), -216);
        Check.due("wood, 1 below", rateOf(2, 9, true, 0, 19, 1013), 216);
        Check.due("invar, 1 above", rateOf(3, 9, true, 0, 21, 1013), -43);
        Check.due("invar, 1 below", rateOf(3, 9, true, 0, 19, 1013), 44);
        Check.due("brass in the cold", rateOf(1, 0, true, 0, -20, 1013), 32832);
        Check.due("brass in the heat", rateOf(1, 0, true, 0, 50, 1013), -24624);
        Check.due("more pressure", rateOf(3, 0, true, 0, 20, 1014), -12);
        Check.due("less pressure", rateOf(3, 0, true, 0, 20, 1012), 12);
        Check.due("least pressure", rateOf(3, 0, true, 5, 20, 900), 1361);
        Check.due("most pressure", rateOf(3, 0, true, 5, 20, 1100), -1039);
        Check.due("most of all", rateOf(1, 0, true, 1000000, -20, 900), 1034188);
        Check.due("least of all", rateOf(1, 200, false, -1000000, 50, 1100), -1241668);
    }

    private static void quotientsRoundedAlone() {
        // 48.6 and 86.4 are 48 and 86; together they would be 135.
        Check.due("arc 3, invar, 22", rateOf(3, 3, false, 0, 22, 1013), -134);
        // 5.4 and -43.2 are 5 and -44; together they would be -38.
        Check.due("arc 1, invar, 19", rateOf(3, 1, false, 0, 19, 1013), 39);
    }

    private static void making() {
        PendulumHall hall = new PendulumHall();
        for (int clock = 0; clock < 10; clock++) {
            Check.due("clock's number", hall.clock(clock % 4, clock, false, 1000 * clock), clock);
            Check.due("count(0)", hall.count(0), clock + 1);
        }
        Check.due("the first one's rate", hall.rate(0), 0);
        Check.due("the last one's rate", hall.rate(9), 9000 - 437);
        Check.dueThrow("an 11th clock", Check.STATE, () -> hall.clock(0, 0, true, 0));
        Check.dueThrow("an 11th clock, bad rod", Check.ILLEGAL, () -> hall.clock(4, 0, true, 0));
        Check.dueThrow("an 11th clock, bad arc", Check.ILLEGAL, () -> hall.clock(0, 201, true, 0));
        Check.dueThrow("an 11th clock, bad adjustment", Check.ILLEGAL, () -> hall.clock(0, 0, true, 1000001));
        Check.due("count(0) behind that", hall.count(0), 10);
        Check.dueRange("rod", 0, 3, Check.ILLEGAL, rod -> new PendulumHall().clock(rod, 0, true, 0));
        Check.dueRange("arc", 0, 200, Check.ILLEGAL, arc -> new PendulumHall().clock(0, arc, true, 0));
        Check.dueRange("arc, no cheeks", 0, 200, Check.ILLEGAL, arc -> new PendulumHall().clock(0, arc, false, 0));
        Check.dueRange("adjustment", -1000000, 1000000, Check.ILLEGAL,
                adjustment -> new PendulumHall().clock(0, 0, true, adjustment));
    }

    private static void regulating() {
        PendulumHall hall = new PendulumHall();
        hall.clock(PendulumHall.STEEL, 3, false, 10);
        hall.clock(PendulumHall.BRASS, 3, true, 20);
        hall.days(2);
        Check.due("regulate without cheeks", hall.regulate(0, 10, 700), 160);
        Check.due("its rate then", hall.rate(0), 160);
        Check.due("it is still off", hall.off(0), -76);
        Check.due("regulate with cheeks", hall.regulate(1, 200, -5), -5);
        Check.due("the other one stays", hall.rate(0), 160);
        hall.heat(21);
        Check.due("the rod stays", hall.regulate(1, 0, 0), -820);
        Check.due("the rod of the other stays", hall.regulate(0, 0, 0), -475);
        Check.dueRange("regulate's clock", 0, 1, Check.INDEX, clock -> hall.regulate(clock, 0, 0));
        Check.dueRange("regulate's arc", 0, 200, Check.ILLEGAL, arc -> hall.regulate(0, arc, 0));
        Check.dueRange("regulate's adjustment", -1000000, 1000000, Check.ILLEGAL,
                adjustment -> hall.regulate(1, 0, adjustment));
        Check.dueThrow("no clock and a bad arc", Check.INDEX, () -> hall.regulate(2, -1, 0));
        Check.dueThrow("no clock and a bad adjustment", Check.INDEX, () -> hall.regulate(-1, 0, 1000001));
    }

    private static void setting() {
        PendulumHall hall = new PendulumHall();
        made(hall, 3);
        made(hall, 4);
        Check.due("set", hall.set(0, -70), 0);
        Check.due("off then", hall.off(0), -70);
        Check.due("the other one", hall.off(1), 0);
        Check.due("set again", hall.set(0, 1000000000), -70);
        Check.due("most", hall.off(0), 1000000000);
        hall.days(10000);
        Check.due("beyond what set takes", hall.set(0, -1000000000), 1000030000);
        Check.due("least", hall.off(0), -1000000000);
        Check.due("the rate stays", hall.rate(0), 3);
        Check.dueRange("set's clock", 0, 1, Check.INDEX, clock -> hall.set(clock, 0));
        Check.dueRange("set's off", -1000000000, 1000000000, Check.ILLEGAL, off -> hall.set(1, off));
        Check.dueThrow("no clock and a bad off", Check.INDEX, () -> hall.set(2, 1000000001));
    }

    private static void daysGoBy() {
        PendulumHall hall = new PendulumHall();
        hall.clock(PendulumHall.WOOD, 0, true, 100);
        Check.due("days(1)", hall.days(1), 1);
        Check.due("off by one rate", hall.off(0), 100);
        hall.heat(30);
        Check.due("days(10)", hall.days(10), 11);
        Check.due("off in the heat", hall.off(0), 100 + 10 * (100 - 2160));
        made(hall, -1000000);
        Check.due("days(10000)", hall.days(10000), 10011);
        Check.due("a long is due", hall.off(1), 10000L * (-1000000 - 432));
        Check.due("rates don't change by days", hall.rate(1), -1000432);
        Check.dueRange("days", 1, 10000, Check.ILLEGAL, days -> new PendulumHall().days(days));
        Check.dueThrow("days(0)", Check.ILLEGAL, () -> hall.days(0));
        Check.due("wrong days are not counted", hall.days(1), 10012);
        Check.dueThrow("off(2)", Check.INDEX, () -> hall.off(2));
        Check.dueRange("off's clock", 0, 1, Check.INDEX, hall::off);
        Check.dueRange("rate's clock", 0, 1, Check.INDEX, hall::rate);
    }

    private static long timeOf(int... offs) {
        PendulumHall hall = new PendulumHall();
        for (int off : offs) {
            hall.set(made(hall, 0), off);
        }
        return hall.time();
    }

    private static void timeInTheMiddle() {
        Check.due("one", timeOf(-17), -17);
        Check.due("two", timeOf(10, 21), 15);
        Check.due("two, the other way", timeOf(21, 10), 15);
        Check.due("two below 0", timeOf(-1, 0), -1);
        Check.due("two below 0, even", timeOf(-4, -2), -3);
        Check.due("three", timeOf(30, 10, 20), 20);
        Check.due("three, two the same", timeOf(5, 9, 5), 5);
        Check.due("four", timeOf(100, 1, 7, 4), 5);
        Check.due("four, the far ones don't count", timeOf(-1000000000, 1000000000, -8, -3), -6);
        Check.due("five", timeOf(9, 8, 7, 6, 5), 7);
        Check.due("ten", timeOf(10, 9, 8, 7, 6, 5, 4, 3, 2, 1), 5);
        Check.due("ten, mixed", timeOf(3, -3, 12, 0, 7, 7, -9, 1, 40, 2), 2);
        PendulumHall hall = new PendulumHall();
        Check.dueThrow("time without clocks", Check.STATE, hall::time);
        hall.set(made(hall, 1), 9);
        hall.set(made(hall, 2), 3);
        Check.due("time", hall.time(), 6);
        Check.due("clocks keep their order", hall.off(0), 9);
        hall.days(10);
        Check.due("time goes on", hall.time(), (19 + 23) / 2);
    }

    private static void trust() {
        PendulumHall hall = new PendulumHall();
        Check.dueThrow("isTrusted of none", Check.INDEX, () -> hall.isTrusted(0));
        hall.set(made(hall, 0), 1000);
        Check.due("one alone", hall.isTrusted(0), true);
        made(hall, 0);
        Check.due("two, both 500 away", hall.isTrusted(0) && hall.isTrusted(1), true);
        hall.set(0, 1001);
        Check.due("501 above the rounded time", hall.isTrusted(0), false);
        Check.due("500 below the rounded time", hall.isTrusted(1), true);
        Check.due("count(1)", hall.count(1), 1);
        hall.set(0, 500);
        made(hall, 0);
        hall.set(2, -500);
        Check.due("500 above", hall.isTrusted(0), true);
        Check.due("500 below", hall.isTrusted(2), true);
        Check.due("count(1) of 3", hall.count(1), 3);
        hall.set(0, 501);
        hall.set(2, -501);
        Check.due("501 above", hall.isTrusted(0), false);
        Check.due("the middle one", hall.isTrusted(1), true);
        Check.due("501 below", hall.isTrusted(2), false);
        Check.due("count(1) of 1", hall.count(1), 1);
        Check.dueRange("isTrusted's clock", 0, 2, Check.INDEX, hall::isTrusted);
        hall.set(0, 1000);
        hall.set(1, -1000);
        made(hall, 0);
        hall.set(2, 2000);
        hall.set(3, -2000);
        Check.due("none of four is near", hall.count(1), 0);
    }

    private static void wrongCallsChangeNothing() {
        PendulumHall hall = new PendulumHall();
        hall.clock(PendulumHall.STEEL, 10, false, 40);
        hall.set(0, 77);
        Check.dueThrow("heat(51)", Check.ILLEGAL, () -> hall.heat(51));
        Check.dueThrow("pressure(899)", Check.ILLEGAL, () -> hall.pressure(899));
        Check.dueThrow("regulate's arc", Check.ILLEGAL, () -> hall.regulate(0, 201, 5));
        Check.dueThrow("regulate's adjustment", Check.ILLEGAL, () -> hall.regulate(0, 5, -1000001));
        Check.dueThrow("set's off", Check.ILLEGAL, () -> hall.set(0, 1000000001));
        Check.dueThrow("days", Check.ILLEGAL, () -> hall.days(10001));
        Check.dueThrow("clock's rod", Check.ILLEGAL, () -> hall.clock(-1, 5, true, 5));
        Check.due("rate", hall.rate(0), -500);
        Check.due("off", hall.off(0), 77);
        Check.due("count(0)", hall.count(0), 1);
        Check.due("heat", hall.heat(20), 20);
        Check.due("pressure", hall.pressure(1013), 1013);
        Check.due("days", hall.days(1), 1);
    }
}
