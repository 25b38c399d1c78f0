/** Promises 30 to 37 at their boundaries, a test for each sentence that names one. */
public final class ChainEdgeTest {
    private static final int MILLION = 1000000;
    private static final int PULL = 100000;
    /** To which side bob 1 is held, step by step, so that bob 0 swings ever more widely. */
    private static final int[] SIDES = {-1, 1, 1, -1, -1, 1, 1, -1, -1, 1, 1, -1, -1};

    public static void main(String[] args) {
        chainOfOneAndEight();
        chainAtItsEnds();
        chainAtRest();
        chainKeepsAirAndPush();
        pullAtItsEnds();
        pullNoSuchBob();
        driveAtItsEnds();
        stepsAtTheirEnds();
        stepOfOneBob();
        stepOfTheBobsRightBeside();
        stepQuotientsRoundedDown();
        stepByPlacesAhead();
        stepPlacesBySpeedsThen();
        airIsCut();
        airOfAHundred();
        pushFromBelowToJustZero();
        pushOfBobZeroAlone();
        pushBehindThePlace();
        placeOfJustAMillion();
        placeOfAMillionAndOne();
        speedOfJustAMillion();
        speedOfAMillionAndOne();
        pushCountsForTheLimit();
        withinTheStepNothingMatters();
        firstStepThatCannotBeDone();
        laterStepThatCannotBeDone();
        nothingOfAStepThatCannotBeDone();
        backUndoes();
        backByPlacesThen();
        backWithAirOrPush();
        backAtItsEnds();
        backPlaceAtTheLimit();
        backSpeedAtTheLimit();
        backFirstAndLaterThatCannotBeDone();
        bobNoSuchOne();
        energyOfOneBob();
        energyOfEightBobs();
        energyAtItsWidest();
        shareOfOneAndEight();
        shareRoundedToAFloat();
        Check.end();
    }

    private static PendulumHall hung(int bobs, int k, int c) {
        PendulumHall hall = Halls.fresh();
        hall.chain(bobs, k, c);
        return hall;
    }

    /** One bob without weight at a place with a speed. */
    private static PendulumHall free(int place, int speed) {
        PendulumHall hall = Halls.fresh();
        hall.pull(0, place, speed);
        return hall;
    }

    private static void bob(String call, PendulumHall hall, int bob, int place, int speed) {
        Halls.bob(call, hall, bob, place, speed);
    }

    // 30: "1 to 8", "k 0 to 15", "c 0 to 15", "how many BOBS there were"

    private static void chainOfOneAndEight() {
        PendulumHall hall = Halls.fresh();
        Check.due("30: one there was", hall.chain(8, 0, 0), 1);
        Check.due("30: eight", hall.count(5), 8);
        Check.due("35: the eighth", hall.bob(7, false), 0);
        Check.dueThrow("35: no ninth", Check.INDEX, () -> hall.bob(8, false));
        Check.due("30: eight there were", hall.chain(1, 0, 0), 8);
        Check.due("30: one", hall.count(5), 1);
        Check.dueThrow("35: no second", Check.INDEX, () -> hall.bob(1, false));
    }

    private static void chainAtItsEnds() {
        PendulumHall hall = hung(2, 15, 15);
        hall.pull(0, 16, 0);
        int[][] bad = {{0, 0, 0}, {9, 0, 0}, {-1, 0, 0}, {1, -1, 0}, {1, 16, 0}, {1, 0, -1}, {1, 0, 16}};
        for (int[] a : bad) {
            Check.dueThrow("30: out of range", Check.ILLEGAL, () -> hall.chain(a[0], a[1], a[2]));
        }
        bob("30: these change nothing", hall, 0, 16, 0);
        Check.due("30: nor weight and spring", hall.energy(), 30 * 256);
        Check.due("30: nor how many", hall.count(5), 2);
        hall.step(1);
        bob("30: weight and spring of 15", hall, 0, 16 - 30, -30);
        PendulumHall none = hung(2, 0, 0);
        none.pull(0, 16, 0);
        none.step(1);
        bob("30: weight and spring of 0", none, 0, 16, 0);
    }

    private static void chainAtRest() {
        PendulumHall hall = hung(8, 0, 0);
        for (int bob = 0; bob < 8; bob++) {
            hall.pull(bob, bob + 1, bob - 9);
        }
        hall.chain(8, 0, 0);
        for (int bob = 0; bob < 8; bob++) {
            bob("30: at rest", hall, bob, 0, 0);
        }
        hall.pull(7, 70, 7);
        hall.chain(1, 0, 0);
        hall.chain(8, 0, 0);
        bob("30: at rest, though it was gone", hall, 7, 0, 0);
    }

    private static void chainKeepsAirAndPush() {
        PendulumHall hall = Halls.fresh();
        hall.drive(100, 9);
        hall.chain(2, 0, 0);
        Check.dueThrow("30: air and push stay", Check.STATE, () -> hall.back(1));
        hall.pull(1, 0, 500);
        hall.step(1);
        bob("30: air stays", hall, 1, 0, 0);
        hall.drive(0, 9);
        hall.chain(1, 0, 0);
        hall.pull(0, -1, 1);
        hall.step(1);
        bob("30: push stays", hall, 0, 0, 10);
    }

    // 31: "-100000 to 100000"

    private static void pullAtItsEnds() {
        PendulumHall hall = hung(2, 0, 0);
        hall.pull(0, -PULL, PULL);
        hall.pull(1, PULL, -PULL);
        int[][] bad = {{PULL + 1, 0}, {-PULL - 1, 0}, {0, PULL + 1}, {0, -PULL - 1}};
        for (int[] a : bad) {
            Check.dueThrow("31: out of range", Check.ILLEGAL, () -> hall.pull(0, a[0], a[1]));
            Check.dueThrow("31: out of range", Check.ILLEGAL, () -> hall.pull(1, a[0], a[1]));
        }
        bob("31: the first", hall, 0, -PULL, PULL);
        bob("31: the second", hall, 1, PULL, -PULL);
    }

    private static void pullNoSuchBob() {
        PendulumHall one = Halls.fresh();
        Check.dueThrow("31: 1 of one", Check.INDEX, () -> one.pull(1, 0, 0));
        Check.dueThrow("31: -1 of one", Check.INDEX, () -> one.pull(-1, 0, 0));
        PendulumHall eight = hung(8, 0, 0);
        eight.pull(7, 1, 2);
        bob("31: 7 of eight", eight, 7, 1, 2);
        Check.dueThrow("31: 8 of eight", Check.INDEX, () -> eight.pull(8, 0, 0));
        Check.dueThrow("31: 8 and a bad place", Check.INDEX, () -> eight.pull(8, PULL + 1, 0));
        Check.dueThrow("31: -1 and a bad speed", Check.INDEX, () -> eight.pull(-1, 0, PULL + 1));
    }

    // 32: "air 0 to 100", "push -1000 to 1000"

    private static void driveAtItsEnds() {
        PendulumHall hall = free(-10, 20);
        hall.drive(0, 1000);
        Check.dueThrow("32: air -1", Check.ILLEGAL, () -> hall.drive(-1, 5));
        Check.dueThrow("32: air 101", Check.ILLEGAL, () -> hall.drive(101, 5));
        Check.dueThrow("32: push -1001", Check.ILLEGAL, () -> hall.drive(5, -1001));
        Check.dueThrow("32: push 1001", Check.ILLEGAL, () -> hall.drive(5, 1001));
        hall.step(1);
        bob("32: these change nothing", hall, 0, 10, 1020);
        hall.pull(0, -10, 20);
        hall.drive(0, -1000);
        hall.step(1);
        bob("32: a push of -1000", hall, 0, 10, -980);
    }

    // 33: "1 to 1000 at most"

    private static void stepsAtTheirEnds() {
        PendulumHall hall = free(0, 1);
        Check.dueThrow("33: 0", Check.ILLEGAL, () -> hall.step(0));
        Check.dueThrow("33: -1", Check.ILLEGAL, () -> hall.step(-1));
        Check.dueThrow("33: 1001", Check.ILLEGAL, () -> hall.step(1001));
        bob("33: these do none", hall, 0, 0, 1);
        Check.due("33: 1", hall.step(1), 1);
        bob("33: one", hall, 0, 1, 1);
        Check.due("33: 1000", hall.step(1000), 1000);
        bob("33: a thousand", hall, 0, 1001, 1);
    }

    private static void stepOfOneBob() {
        PendulumHall hall = hung(1, 1, 15);
        hall.pull(0, 32, 0);
        hall.step(1);
        bob("33: one bob has no springs", hall, 0, 30, -2);
    }

    // "over the BOBS right beside it"

    private static void stepOfTheBobsRightBeside() {
        PendulumHall hall = hung(8, 0, 4);
        hall.pull(0, 400, 0);
        hall.pull(7, 800, 0);
        hall.step(1);
        bob("33: the first has one beside it", hall, 0, 300, -100);
        bob("33: beside the first", hall, 1, 100, 100);
        bob("33: two from the first", hall, 2, 0, 0);
        bob("33: two from the last", hall, 5, 0, 0);
        bob("33: beside the last", hall, 6, 200, 200);
        bob("33: the last has one beside it", hall, 7, 600, -200);
        PendulumHall middle = hung(3, 0, 4);
        middle.pull(1, 400, 0);
        middle.step(1);
        bob("33: the middle one has two", middle, 1, 200, -200);
        PendulumHall fewer = hung(8, 0, 4);
        fewer.pull(2, 400, 0);
        fewer.chain(2, 0, 4);
        fewer.pull(1, 400, 0);
        fewer.step(1);
        bob("33: one that is gone is not beside", fewer, 1, 300, -100);
    }

    // "(k times its place, by 16)", "(c times the sum .., by 16)", rounded down

    private static void stepQuotientsRoundedDown() {
        int[][] weights = {{15, 15}, {16, 15}, {17, 16}, {-1, 0}, {-16, -15}, {-17, -15}, {1, 1}, {0, 0}};
        for (int[] told : weights) {
            PendulumHall hall = hung(1, 1, 0);
            hall.pull(0, told[0], 0);
            hall.step(1);
            Check.due("33: by weight from " + told[0], hall.bob(0, false), told[1]);
        }
        // Bob 1's place, and the speeds that the spring gives to bob 0 and to bob 1.
        int[][] springs = {{1, 0, -1}, {15, 0, -1}, {16, 1, -1}, {17, 1, -2}, {-1, -1, 0}, {-16, -1, 1}};
        for (int[] told : springs) {
            PendulumHall hall = hung(2, 0, 1);
            hall.pull(1, told[0], 0);
            hall.step(1);
            Check.due("33: by spring to 0 from " + told[0], hall.bob(0, true), told[1]);
            Check.due("33: by spring to 1 from " + told[0], hall.bob(1, true), told[2]);
        }
        // -2 by 16 is -1, by the sum of both and not by each.
        PendulumHall both = hung(3, 0, 1);
        both.pull(1, 1, 0);
        both.step(1);
        bob("33: one quotient of the sum", both, 1, 0, -1);
        // 1 by 16 and -1 by 16: 0 taken, -1 given.
        PendulumHall two = hung(2, 1, 1);
        two.pull(0, 1, 0);
        two.step(1);
        bob("33: two quotients", two, 0, 0, -1);
    }

    // "by all places as they are ahead of it"

    private static void stepByPlacesAhead() {
        PendulumHall hall = hung(2, 0, 8);
        hall.pull(0, 100, 1000);
        hall.step(1);
        bob("33: bob 0", hall, 0, 1050, 950);
        bob("33: bob 1, by the place ahead", hall, 1, 50, 50);
    }

    // "then each place is more by the speed"

    private static void stepPlacesBySpeedsThen() {
        PendulumHall hall = hung(1, 8, 0);
        hall.pull(0, 100, 10);
        hall.step(1);
        bob("33: by the speed then", hall, 0, 60, -40);
    }

    // "(it times the air, by 100, cut)"

    private static void airIsCut() {
        int[][] told = {{1, 99, 99}, {1, 100, 99}, {1, -99, -99}, {1, -100, -99}, {1, -101, -100},
            {1, 199, 198}, {1, -199, -198}, {99, 1, 1}, {99, -1, -1}, {99, 2, 1}, {99, -2, -1}, {50, -3, -2}};
        for (int[] a : told) {
            PendulumHall hall = free(0, a[1]);
            hall.drive(a[0], 0);
            hall.step(1);
            bob("33: air " + a[0] + " of " + a[1], hall, 0, a[2], a[2]);
        }
    }

    private static void airOfAHundred() {
        for (int speed : new int[] {PULL, 1, 0, -1, -PULL}) {
            PendulumHall hall = free(-7, speed);
            hall.drive(100, 1000);
            Check.due("33: done", hall.step(1), 1);
            bob("33: air 100 of " + speed, hall, 0, -7, 0);
        }
        PendulumHall hung = hung(1, 15, 0);
        hung.pull(0, -PULL, 1);
        hung.drive(100, 1000);
        Check.due("33: air 100 of what the weight gives too", hung.step(1000), 1000);
        bob("33: it stays", hung, 0, -PULL, 0);
    }

    // "if the BOB 0 was below 0 ahead of the STEP, and is not now"

    private static void pushFromBelowToJustZero() {
        int[][] told = {{-1, 1, 0, 51}, {-5, 5, 0, 55}, {-1, 2, 1, 52}, {-2, 1, -1, 1}, {-1, 0, -1, 0},
            {0, 0, 0, 0}, {0, 1, 1, 1}, {0, -1, -1, -1}, {1, -1, 0, -1}, {1, -2, -1, -2}};
        for (int[] a : told) {
            PendulumHall hall = free(a[0], a[1]);
            hall.drive(0, 50);
            hall.step(1);
            bob("33: from " + a[0] + " by " + a[1], hall, 0, a[2], a[3]);
        }
    }

    private static void pushOfBobZeroAlone() {
        PendulumHall hall = hung(8, 0, 0);
        hall.drive(0, -50);
        for (int bob = 0; bob < 8; bob++) {
            hall.pull(bob, -4, bob == 0 ? 3 : 4);
        }
        hall.step(1);
        for (int bob = 0; bob < 8; bob++) {
            bob("33: others come from below, bob 0 does not", hall, bob, bob == 0 ? -1 : 0, bob == 0 ? 3 : 4);
        }
        hall.step(1);
        bob("33: bob 0 then", hall, 0, 2, -47);
        bob("33: bob 1 then", hall, 1, 4, 4);
    }

    private static void pushBehindThePlace() {
        PendulumHall hall = free(-10, 40);
        hall.drive(50, 100);
        hall.step(1);
        bob("33: neither the place nor the air is by the push", hall, 0, 10, 120);
        hall.step(1);
        bob("33: the next step is", hall, 0, 70, 60);
    }

    // "above 1000000 or below -1000000"

    private static void placeOfJustAMillion() {
        for (int bob = 0; bob < 8; bob++) {
            for (int side = -1; side <= 1; side += 2) {
                PendulumHall hall = hung(8, 0, 0);
                hall.pull(bob, side * PULL, side * PULL);
                Check.due("33: to just a million", hall.step(9), 9);
                bob("33: it is there", hall, bob, side * MILLION, side * PULL);
                Check.due("33: not beyond", hall.step(1), 0);
                hall.pull(bob, 0, side);
                Check.due("33: on from elsewhere", hall.step(1), 1);
            }
        }
    }

    private static void placeOfAMillionAndOne() {
        for (int bob = 0; bob < 8; bob++) {
            for (int side = -1; side <= 1; side += 2) {
                PendulumHall hall = hung(8, 0, 0);
                hall.pull(bob, side, side * PULL);
                Check.due("33: not to a million and one", hall.step(10), 9);
                bob("33: the step ahead of it", hall, bob, side * 900001, side * PULL);
            }
        }
    }

    /** Two bobs, the first one's place and speed as they are behind 13 steps to a side. */
    private static PendulumHall swung(int side, boolean isBack, int place, int speed) {
        PendulumHall hall = hung(2, 15, 15);
        for (int turn : SIDES) {
            hall.pull(1, side * turn * PULL, 0);
            Check.due("swung", isBack ? hall.back(1) : hall.step(1), 1);
        }
        bob("swung", hall, 0, place, speed);
        return hall;
    }

    private static PendulumHall swung(int side) {
        return side > 0 ? swung(1, false, -810572, -531586) : swung(-1, false, 810572, 531586);
    }

    private static void speedOfJustAMillion() {
        PendulumHall above = swung(1);
        above.pull(1, 12547, 0);
        Check.due("33: a speed of 1000000", above.step(1), 1);
        bob("33: it is done", above, 0, 189428, MILLION);
        PendulumHall below = swung(-1);
        below.pull(1, -12548, 0);
        Check.due("33: a speed of -1000000", below.step(1), 1);
        bob("33: it is done", below, 0, -189428, -MILLION);
    }

    private static void speedOfAMillionAndOne() {
        PendulumHall above = swung(1);
        above.pull(1, 12548, 0);
        Check.due("33: a speed of 1000001", above.step(1), 0);
        bob("33: it is not done", above, 0, -810572, -531586);
        bob("33: nor by the other one", above, 1, 12548, 0);
        PendulumHall below = swung(-1);
        below.pull(1, -12549, 0);
        Check.due("33: a speed of -1000001", below.step(1), 0);
        bob("33: it is not done", below, 0, 810572, 531586);
        bob("33: nor by the other one", below, 1, -12549, 0);
    }

    // "the push with it"

    private static void pushCountsForTheLimit() {
        // 12546, 12547 and 12548 give speeds of 999999, 1000000 and 1000001, and bob 0 comes from below 0.
        int[][] told = {{12546, 1, 1}, {12546, 2, 0}, {12547, 0, 1}, {12547, 1, 0}, {12548, -1, 1},
            {12548, 0, 0}, {12549, -1, 1}, {12550, -1, 0}, {12550, -2, 1}, {12550, -1000, 1}, {12546, 1000, 0}};
        for (int[] a : told) {
            PendulumHall hall = swung(1);
            hall.pull(1, a[0], 0);
            hall.drive(0, a[1]);
            Check.due("33: bob 1 at " + a[0] + ", push " + a[1], hall.step(1), a[2]);
            Check.due("33: done or not", hall.bob(0, false) == -810572, a[2] == 0);
        }
    }

    // "what there would be within it does not matter"

    private static void withinTheStepNothingMatters() {
        // Ahead of the air the speed would be 1010101 or 1010102, of which a hundredth is 10101.
        PendulumHall above = swung(1);
        above.drive(1, 0);
        above.pull(1, 23323, 0);
        Check.due("33: 1000001 behind the air", above.step(1), 0);
        bob("33: it is not done", above, 0, -810572, -531586);
        above.pull(1, 23322, 0);
        Check.due("33: 1000000 behind the air", above.step(1), 1);
        bob("33: it is done", above, 0, 189428, MILLION);
        PendulumHall below = swung(-1);
        below.drive(1, 0);
        below.pull(1, -23323, 0);
        Check.due("33: -1000001 behind the air", below.step(1), 0);
        below.pull(1, -23322, 0);
        Check.due("33: -1000000 behind the air", below.step(1), 1);
        bob("33: it is done", below, 0, -189428, -MILLION);
        PendulumHall still = swung(1);
        still.drive(100, 0);
        still.pull(1, PULL, 0);
        Check.due("33: all of it taken by the air", still.step(1), 1);
        bob("33: it stays", still, 0, -810572, 0);
    }

    private static void firstStepThatCannotBeDone() {
        PendulumHall hall = free(PULL, PULL);
        hall.step(9);
        Check.due("33: the first of one", hall.step(1), 0);
        Check.due("33: the first of a thousand", hall.step(1000), 0);
        bob("33: none is done", hall, 0, MILLION, PULL);
    }

    private static void laterStepThatCannotBeDone() {
        PendulumHall tenth = free(1, PULL);
        Check.due("33: the tenth", tenth.step(1000), 9);
        bob("33: nine are done", tenth, 0, 900001, PULL);
        PendulumHall last = free(0, 1000);
        Check.due("33: none of a thousand", last.step(1000), 1000);
        bob("33: all are done", last, 0, MILLION, 1000);
        PendulumHall thousandth = free(1, 1000);
        Check.due("33: the thousandth", thousandth.step(1000), 999);
        bob("33: all but one are done", thousandth, 0, 999001, 1000);
    }

    private static void nothingOfAStepThatCannotBeDone() {
        PendulumHall hall = hung(3, 3, 2);
        hall.pull(0, 0, PULL);
        hall.pull(2, 5, -6);
        int done = hall.step(1000);
        Check.due("33: a swing that stays within", done, 1000);
        PendulumHall stuck = hung(3, 0, 0);
        stuck.pull(0, -5, 7);
        stuck.pull(1, 3, -2);
        stuck.pull(2, -PULL, -PULL);
        stuck.drive(0, 11);
        Check.due("33: by the last bob", stuck.step(1000), 9);
        bob("33: the first one with its push", stuck, 0, -5 + 7 + 8 * 18, 18);
        bob("33: the second one", stuck, 1, 3 - 18, -2);
        Check.due("33: none more", stuck.step(1), 0);
        bob("33: the first one stays", stuck, 0, -5 + 7 + 8 * 18, 18);
        bob("33: the second one stays", stuck, 1, 3 - 18, -2);
        bob("33: the last one stays", stuck, 2, -MILLION, -PULL);
    }

    // 34: "A STEP back, without air and push, undoes that"

    private static void backUndoes() {
        int[][] states = {{0, 0}, {1, 0}, {-1, 0}, {15, 1}, {16, -1}, {-17, 3}, {PULL, -PULL}, {-PULL, PULL}};
        for (int bobs = 1; bobs <= 8; bobs += 7) {
            for (int[] state : states) {
                PendulumHall hall = hung(bobs, 7, 3);
                hall.pull(0, state[0], state[1]);
                hall.pull(bobs - 1, state[0], state[1]);
                Check.due("34: steps", hall.step(5), 5);
                Check.due("34: steps back", hall.back(5), 5);
                bob("34: undone", hall, 0, state[0], state[1]);
                bob("34: undone", hall, bobs - 1, state[0], state[1]);
                Check.due("34: beyond", hall.back(3), 3);
                Check.due("34: steps again", hall.step(3), 3);
                bob("34: done again", hall, 0, state[0], state[1]);
            }
        }
    }

    // "each place is less by the speed; then, by all places as they are then"

    private static void backByPlacesThen() {
        PendulumHall one = hung(1, 1, 0);
        one.pull(0, 15, -1);
        one.back(1);
        bob("34: 16 by 16 is 1", one, 0, 16, 0);
        PendulumHall down = hung(1, 1, 0);
        down.pull(0, 0, 1);
        down.back(1);
        bob("34: -1 by 16 is -1", down, 0, -1, 0);
        PendulumHall two = hung(2, 0, 8);
        two.pull(0, 1050, 950);
        two.pull(1, 50, 50);
        two.back(1);
        bob("34: bob 0", two, 0, 100, 1000);
        bob("34: bob 1", two, 1, 0, 0);
        PendulumHall spring = hung(2, 0, 1);
        spring.pull(0, 0, 0);
        spring.pull(1, 0, -1);
        spring.back(1);
        bob("34: 1 by 16 is 0", spring, 0, 0, 0);
        bob("34: -1 by 16 is -1", spring, 1, 1, 0);
    }

    private static void backWithAirOrPush() {
        PendulumHall hall = free(3, 4);
        int[][] told = {{1, 0}, {100, 0}, {0, 1}, {0, -1}, {0, 1000}, {1, 1}};
        for (int[] a : told) {
            hall.drive(a[0], a[1]);
            Check.dueThrow("34: air " + a[0] + ", push " + a[1], Check.STATE, () -> hall.back(1));
            Check.dueThrow("34: and 1000", Check.STATE, () -> hall.back(1000));
            Check.dueThrow("34: and 0", Check.ILLEGAL, () -> hall.back(0));
            Check.dueThrow("34: and 1001", Check.ILLEGAL, () -> hall.back(1001));
        }
        bob("34: these change nothing", hall, 0, 3, 4);
        hall.drive(0, 0);
        Check.due("34: without both", hall.back(1), 1);
        bob("34: without both", hall, 0, -1, 4);
    }

    private static void backAtItsEnds() {
        PendulumHall hall = free(0, -1);
        Check.dueThrow("34: 0", Check.ILLEGAL, () -> hall.back(0));
        Check.dueThrow("34: -1", Check.ILLEGAL, () -> hall.back(-1));
        Check.dueThrow("34: 1001", Check.ILLEGAL, () -> hall.back(1001));
        bob("34: these do none", hall, 0, 0, -1);
        Check.due("34: 1", hall.back(1), 1);
        bob("34: one", hall, 0, 1, -1);
        Check.due("34: 1000", hall.back(1000), 1000);
        bob("34: a thousand", hall, 0, 1001, -1);
    }

    private static void backPlaceAtTheLimit() {
        for (int bob = 0; bob < 8; bob++) {
            for (int side = -1; side <= 1; side += 2) {
                PendulumHall just = hung(8, 0, 0);
                just.pull(bob, 0, -side * PULL);
                Check.due("34: to just a million", just.back(1000), 10);
                bob("34: it is there", just, bob, side * MILLION, -side * PULL);
                PendulumHall beyond = hung(8, 0, 0);
                beyond.pull(bob, side, -side * PULL);
                Check.due("34: not to a million and one", beyond.back(1000), 9);
                bob("34: the step ahead of it", beyond, bob, side * 900001, -side * PULL);
            }
        }
    }

    private static void backSpeedAtTheLimit() {
        PendulumHall below = swung(1, true, -278986, 531586);
        below.pull(1, 12548, 0);
        Check.due("34: a speed of -1000001", below.back(1), 0);
        bob("34: it is not done", below, 0, -278986, 531586);
        bob("34: nor by the other one", below, 1, 12548, 0);
        below.pull(1, 12547, 0);
        Check.due("34: a speed of -1000000", below.back(1), 1);
        bob("34: it is done", below, 0, -810572, -MILLION);
        PendulumHall above = swung(-1, true, 278986, -531586);
        above.pull(1, -12549, 0);
        Check.due("34: a speed of 1000001", above.back(1), 0);
        bob("34: it is not done", above, 0, 278986, -531586);
        above.pull(1, -12548, 0);
        Check.due("34: a speed of 1000000", above.back(1), 1);
        bob("34: it is done", above, 0, 810572, MILLION);
    }

    private static void backFirstAndLaterThatCannotBeDone() {
        PendulumHall hall = free(PULL, -PULL);
        Check.due("34: the tenth", hall.back(10), 9);
        Check.due("34: the first of one", hall.back(1), 0);
        Check.due("34: the first of a thousand", hall.back(1000), 0);
        bob("34: none is done", hall, 0, MILLION, -PULL);
        PendulumHall stuck = hung(2, 0, 0);
        stuck.pull(0, 4, 3);
        stuck.pull(1, -PULL, PULL);
        Check.due("34: by the last bob", stuck.back(20), 9);
        bob("34: nothing of the tenth", stuck, 0, 4 - 27, 3);
    }

    // 35

    private static void bobNoSuchOne() {
        for (int bobs = 1; bobs <= 8; bobs++) {
            PendulumHall hall = hung(bobs, 0, 0);
            int last = bobs - 1;
            hall.pull(last, 5, 6);
            bob("35: the last", hall, last, 5, 6);
            for (int none : new int[] {-1, last + 1}) {
                Check.dueThrow("35: place of " + none, Check.INDEX, () -> hall.bob(none, false));
                Check.dueThrow("35: speed of " + none, Check.INDEX, () -> hall.bob(none, true));
            }
        }
    }

    // 36

    private static void energyOfOneBob() {
        PendulumHall hall = hung(1, 2, 15);
        Check.due("36: at rest", hall.energy(), 0);
        hall.pull(0, -3, 0);
        Check.due("36: one bob has no springs", hall.energy(), 18);
        hall.pull(0, 0, -3);
        Check.due("36: its speed", hall.energy(), 144);
    }

    private static void energyOfEightBobs() {
        PendulumHall hall = hung(8, 0, 1);
        hall.pull(0, 1, 0);
        Check.due("36: the first is beside one", hall.energy(), 1);
        hall.pull(0, 0, 0);
        hall.pull(7, 1, 0);
        Check.due("36: the last is beside one", hall.energy(), 1);
        hall.pull(7, 0, 0);
        hall.pull(4, -1, 0);
        Check.due("36: another one is beside two", hall.energy(), 2);
        hall.pull(4, -1, 1);
        Check.due("36: and its speed", hall.energy(), 18);
        PendulumHall fewer = hung(8, 1, 1);
        fewer.pull(7, 9, 9);
        fewer.chain(7, 1, 1);
        Check.due("36: one that is gone has none", fewer.energy(), 0);
    }

    private static void energyAtItsWidest() {
        PendulumHall hall = hung(8, 0, 0);
        for (int bob = 0; bob < 8; bob++) {
            hall.pull(bob, PULL, PULL);
        }
        hall.step(9);
        Check.due("36: no weight", hall.energy(), 16L * 8 * PULL * PULL);
        PendulumHall wide = hung(8, 15, 15);
        for (int bob = 0; bob < 8; bob++) {
            wide.pull(bob, bob % 2 == 0 ? PULL : -PULL, -PULL);
        }
        Check.due("36: more than an int", wide.energy(), 668L * 10000000000L);
        PendulumHall fast = swung(1);
        fast.pull(1, 12547, 0);
        fast.step(1);
        Check.due("36: at a speed of a million", fast.energy(),
                16L * (1000000L * 1000000 + 783437L * 783437) + 15L * (189428L * 189428 + 770890L * 770890)
                        + 15L * (189428L + 770890) * (189428L + 770890));
    }

    // 37

    private static void shareOfOneAndEight() {
        PendulumHall one = hung(1, 3, 0);
        Check.dueFloat("37: at rest", one.share(), 0f);
        one.pull(0, 1, 0);
        Check.dueFloat("37: of one", one.share(), 3f);
        PendulumHall eight = hung(8, 3, 0);
        eight.pull(0, 1, 0);
        Check.dueFloat("37: of eight", eight.share(), 0.375f);
        PendulumHall seven = hung(7, 3, 0);
        seven.pull(0, 1, 0);
        Check.dueFloat("37: of seven", seven.share(), 3f / 7f);
    }

    // "the ENERGY as a float, divided by the number of BOBS as a float"

    private static void shareRoundedToAFloat() {
        // 16785409 lies between the floats 16785408 and 16785410.
        PendulumHall one = hung(1, 1, 0);
        one.pull(0, 4097, 0);
        Check.due("36: as a long", one.energy(), 16785409);
        Check.dueFloat("37: as a float", one.share(), 16785408f);
        PendulumHall three = hung(3, 1, 0);
        three.pull(0, 4097, 0);
        Check.dueFloat("37: rounded ahead of the division", three.share(), 16785408f / 3f);
    }
}
