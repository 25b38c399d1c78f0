/** Promises 30 to 37: the chain, its steps there and back, and its energy. */
public final class ChainTest {
    public static void main(String[] args) {
        hanging();
        pulling();
        oneBob();
        springs();
        air();
        push();
        limits();
        limitWithinAStep();
        limitWithThePush();
        stepsBack();
        limitsBack();
        energies();
        shares();
        wrongInputs();
        wrongCallsChangeNothing();
        Check.end();
    }

    private static PendulumHall hung(int bobs, int k, int c) {
        PendulumHall hall = new PendulumHall();
        hall.chain(bobs, k, c);
        return hall;
    }

    private static void bob(PendulumHall hall, int bob, int place, int speed) {
        Check.due("place of " + bob, hall.bob(bob, false), place);
        Check.due("speed of " + bob, hall.bob(bob, true), speed);
    }

    private static void hanging() {
        PendulumHall hall = new PendulumHall();
        Check.due("bobs at first", hall.chain(8, 15, 15), 1);
        Check.due("count(5)", hall.count(5), 8);
        hall.pull(7, 5, 6);
        hall.pull(0, 3, 4);
        Check.due("bobs then", hall.chain(3, 1, 1), 8);
        bob(hall, 0, 0, 0);
        Check.dueThrow("the fourth one is gone", Check.INDEX, () -> hall.bob(3, false));
        Check.due("bobs again", hall.chain(8, 0, 0), 3);
        bob(hall, 7, 0, 0);
        hall.pull(2, 100, 0);
        hall.pull(1, 50, 0);
        hall.step(1);
        bob(hall, 2, 100, 0);
        hall.drive(10, 5);
        Check.due("the same again", hall.chain(2, 0, 0), 8);
        hall.pull(1, 0, 100);
        hall.pull(0, -10, 20);
        hall.step(1);
        Check.due("air stays", hall.bob(1, true), 90);
        Check.due("push stays", hall.bob(0, true), 18 + 5);
    }

    private static void pulling() {
        PendulumHall hall = hung(3, 4, 5);
        hall.pull(1, -100000, 100000);
        bob(hall, 0, 0, 0);
        bob(hall, 1, -100000, 100000);
        bob(hall, 2, 0, 0);
        hall.pull(1, 7, -8);
        bob(hall, 1, 7, -8);
    }

    private static void stepOf(int k, int place, int speed, int thenPlace, int thenSpeed) {
        PendulumHall hall = hung(1, k, 9);
        hall.pull(0, place, speed);
        Check.due("step(1)", hall.step(1), 1);
        bob(hall, 0, thenPlace, thenSpeed);
        Check.due("back(1)", hall.back(1), 1);
        bob(hall, 0, place, speed);
    }

    private static void oneBob() {
        stepOf(0, 50, -7, 43, -7);
        stepOf(1, 16, 0, 15, -1);
        stepOf(1, 15, 0, 15, 0);
        stepOf(1, 1, 0, 1, 0);
        stepOf(1, -1, 0, 0, 1);
        stepOf(1, -16, 0, -15, 1);
        stepOf(1, -17, 0, -15, 2);
        stepOf(3, 16, 10, 23, 7);
        stepOf(15, 100000, 0, 6250, -93750);
        stepOf(15, -100000, 100000, 93750, 193750);
        PendulumHall hall = hung(1, 4, 0);
        hall.pull(0, 100, 0);
        // Speeds -25, -44 (18 and 75 by 4), -51 (7), ..
        Check.due("step(3)", hall.step(3), 3);
        bob(hall, 0, 100 - 25 - 43 - 51, -51);
    }

    private static void springs() {
        PendulumHall two = hung(2, 0, 1);
        two.pull(1, 16, 0);
        two.step(1);
        bob(two, 0, 1, 1);
        bob(two, 1, 15, -1);
        PendulumHall down = hung(2, 0, 1);
        down.pull(1, 1, 0);
        down.step(1);
        bob(down, 0, 0, 0);
        bob(down, 1, 0, -1);
        // The two springs of the middle one are one sum: -2 by 16 is -1, not twice -1.
        PendulumHall three = hung(3, 0, 1);
        three.pull(1, 1, 0);
        three.step(1);
        bob(three, 0, 0, 0);
        bob(three, 1, 0, -1);
        bob(three, 2, 0, 0);
        // Weight and springs are two quotients: -1 by 16 and -1 by 16, one taken, one given.
        PendulumHall both = hung(2, 1, 1);
        both.pull(0, -1, 0);
        both.step(1);
        bob(both, 0, 0, 1);
        bob(both, 1, -1, -1);
        PendulumHall ends = hung(4, 0, 15);
        ends.pull(0, 160, 1);
        ends.pull(3, -320, 2);
        ends.step(1);
        bob(ends, 0, 160 + 1 - 150, -149);
        bob(ends, 1, 150, 150);
        bob(ends, 2, -300, -300);
        bob(ends, 3, -320 + 302, 302);
        ends.step(1);
        // From 11, 150, -300, -18: 15 times 139 by 16 is 130, 15 times -589 by 16 is -553.
        bob(ends, 0, 11 - 149 + 130, -149 + 130);
        bob(ends, 1, 150 + 150 - 553, 150 - 553);
    }

    private static void airOf(int air, int speed, int then) {
        PendulumHall hall = new PendulumHall();
        hall.drive(air, 0);
        hall.pull(0, 7, speed);
        hall.step(1);
        bob(hall, 0, 7 + then, then);
    }

    private static void air() {
        airOf(0, 199, 199);
        airOf(1, 199, 198);
        airOf(1, 99, 99);
        airOf(1, -99, -99);
        airOf(1, 150, 149);
        airOf(1, -150, -149);
        airOf(1, -199, -198);
        airOf(50, 3, 2);
        airOf(50, -3, -2);
        airOf(100, 100000, 0);
        airOf(100, -100000, 0);
        airOf(99, -100000, -1000);
        // The air takes of the speed behind weight and springs.
        PendulumHall hall = hung(1, 15, 0);
        hall.drive(10, 0);
        hall.pull(0, 160, 250);
        hall.step(1);
        bob(hall, 0, 250, 90);
        // The air takes the weight's and the springs' part together, cut once.
        PendulumHall two = hung(2, 1, 1);
        two.drive(30, 0);
        two.pull(0, -1600, 5);
        two.step(1);
        bob(two, 0, -1600 + 144, 144);
        bob(two, 1, -70, -70);
    }

    private static void pushOf(int place, int speed, int push, int thenPlace, int thenSpeed) {
        PendulumHall hall = hung(2, 0, 0);
        hall.drive(0, push);
        hall.pull(0, place, speed);
        hall.pull(1, place, speed);
        hall.step(1);
        bob(hall, 0, thenPlace, thenSpeed);
        bob(hall, 1, place + speed, speed);
    }

    private static void push() {
        pushOf(-5, 10, 1000, 5, 1010);
        pushOf(-5, 10, -1000, 5, -990);
        pushOf(-5, 5, 7, 0, 12);
        pushOf(-1, 1, 7, 0, 8);
        pushOf(-5, 4, 7, -1, 4);
        pushOf(-5, -4, 7, -9, -4);
        pushOf(0, 10, 7, 10, 10);
        pushOf(0, 0, 7, 0, 0);
        pushOf(5, -10, 7, -5, -10);
        pushOf(5, -5, 7, 0, -5);
        // The place is not pushed, and the air takes nothing of the push.
        PendulumHall hall = new PendulumHall();
        hall.drive(50, 100);
        hall.pull(0, -10, 40);
        hall.step(1);
        bob(hall, 0, 10, 120);
    }

    private static void limits() {
        PendulumHall hall = new PendulumHall();
        hall.pull(0, 100000, 100000);
        Check.due("as many as can be done", hall.step(1000), 9);
        bob(hall, 0, 1000000, 100000);
        Check.due("none then", hall.step(1), 0);
        Check.due("the energy at the end", hall.energy(), 16L * 100000 * 100000);
        hall.pull(0, -100000, -100000);
        Check.due("below", hall.step(9), 9);
        bob(hall, 0, -1000000, -100000);
        Check.due("none below", hall.step(2), 0);
        hall.chain(2, 0, 0);
        hall.pull(0, 5, 1);
        hall.pull(1, 99999, 100000);
        Check.due("one bob stops all", hall.step(50), 9);
        bob(hall, 0, 14, 1);
        bob(hall, 1, 999999, 100000);
        hall.pull(1, 0, 0);
        Check.due("on without it", hall.step(50), 50);
    }

    /** Chains whose springs are too stiff swing ever more widely, until speed or place ends it. */
    private static void limitWithinAStep() {
        PendulumHall hall = hung(8, 15, 15);
        for (int bob = 0; bob < 8; bob++) {
            hall.pull(bob, bob % 2 == 0 ? 900 : -900, 0);
        }
        int done = hall.step(1000);
        Check.due("it ends", done < 1000, true);
        long energy = hall.energy();
        Check.due("none then", hall.step(1), 0);
        Check.due("nothing of a step that cannot be done", hall.energy(), energy);
        Check.due("back to the first state", hall.back(done), done);
        for (int bob = 0; bob < 8; bob++) {
            bob(hall, bob, bob % 2 == 0 ? 900 : -900, 0);
        }
    }

    /** Bob 0 at -810572 with the speed -531586, brought there by holding bob 1 against it. */
    private static PendulumHall swung() {
        PendulumHall hall = hung(2, 15, 15);
        for (int step = 0; step < 13; step++) {
            int way = 8 * hall.bob(0, true) - 15 * hall.bob(0, false);
            hall.pull(1, way > 0 ? 100000 : -100000, 0);
            Check.due("step", hall.step(1), 1);
        }
        bob(hall, 0, -810572, -531586);
        return hall;
    }

    private static void limitWithThePush() {
        PendulumHall hall = swung();
        // Without a push the speed would be just 1000000.
        hall.pull(1, 12547, 0);
        hall.drive(0, 1);
        Check.due("the push is too much", hall.step(3), 0);
        bob(hall, 0, -810572, -531586);
        bob(hall, 1, 12547, 0);
        hall.drive(0, 0);
        Check.due("1000000 is not", hall.step(1), 1);
        bob(hall, 0, 189428, 1000000);
        PendulumHall more = swung();
        more.pull(1, 12549, 0);
        Check.due("1000001 is too much", more.step(1), 0);
        more.drive(0, -1);
        Check.due("a push may take it away", more.step(1), 1);
        bob(more, 0, 189429, 1000000);
        PendulumHall air = swung();
        air.pull(1, 100000, 0);
        Check.due("far too much", air.step(1), 0);
        air.drive(10, 0);
        Check.due("what was within the step does not matter", air.step(1), 1);
        Check.due("the air took of it", air.bob(0, true) > 900000, true);
    }

    private static void stepsBack() {
        PendulumHall hall = hung(5, 7, 3);
        hall.pull(0, -5000, 17);
        hall.pull(2, 1, 1);
        hall.pull(4, 300, -900);
        Check.due("step(1000)", hall.step(1000), 1000);
        Check.due("back(999)", hall.back(999), 999);
        Check.due("back(1)", hall.back(1), 1);
        bob(hall, 0, -5000, 17);
        bob(hall, 1, 0, 0);
        bob(hall, 2, 1, 1);
        bob(hall, 3, 0, 0);
        bob(hall, 4, 300, -900);
        Check.due("back beyond it", hall.back(40), 40);
        Check.due("step(40)", hall.step(40), 40);
        bob(hall, 4, 300, -900);
        hall.drive(1, 0);
        Check.dueThrow("air", Check.STATE, () -> hall.back(1));
        hall.drive(0, 1);
        Check.dueThrow("a push", Check.STATE, () -> hall.back(1));
        hall.drive(0, -1);
        Check.dueThrow("a push below 0", Check.STATE, () -> hall.back(1));
        hall.drive(100, 1000);
        Check.dueThrow("both", Check.STATE, () -> hall.back(1000));
        Check.dueThrow("both, and n", Check.ILLEGAL, () -> hall.back(1001));
        bob(hall, 0, -5000, 17);
        hall.drive(0, 0);
        Check.due("neither", hall.back(1), 1);
        PendulumHall two = hung(2, 1, 1);
        two.pull(0, 0, 1);
        two.pull(1, 5, 5);
        two.back(1);
        // Places -1 and 0: the quotients are -1 and 0, and 0 and -1.
        bob(two, 0, -1, 1 - 1);
        bob(two, 1, 0, 5 + 1);
    }

    private static void limitsBack() {
        PendulumHall hall = new PendulumHall();
        hall.pull(0, 100000, -100000);
        Check.due("as many as can be done", hall.back(1000), 9);
        bob(hall, 0, 1000000, -100000);
        Check.due("none then", hall.back(1), 0);
        hall.pull(0, -100000, 100000);
        Check.due("below", hall.back(9), 9);
        bob(hall, 0, -1000000, 100000);
        Check.due("none below", hall.back(3), 0);
        bob(hall, 0, -1000000, 100000);
        PendulumHall stiff = hung(8, 15, 15);
        stiff.pull(3, 1000, 0);
        int done = stiff.back(1000);
        Check.due("it ends", done < 1000, true);
        long energy = stiff.energy();
        Check.due("none then", stiff.back(1), 0);
        Check.due("nothing of it", stiff.energy(), energy);
        Check.due("on to the first state", stiff.step(done), done);
        bob(stiff, 3, 1000, 0);
        bob(stiff, 4, 0, 0);
    }

    private static void energies() {
        PendulumHall hall = hung(2, 2, 3);
        Check.due("at rest", hall.energy(), 0);
        hall.pull(0, 5, -2);
        hall.pull(1, -4, 3);
        Check.due("energy", hall.energy(), 16 * 13 + 2 * 41 + 3 * 81);
        PendulumHall four = hung(4, 1, 10);
        four.pull(0, 1, 0);
        four.pull(1, 3, 1);
        four.pull(2, 3, 0);
        four.pull(3, -2, -2);
        Check.due("energy of four", four.energy(), 16 * 5 + 23 + 10 * (4 + 0 + 25));
        four.drive(100, 1000);
        Check.due("air and push have none", four.energy(), 16 * 5 + 23 + 10 * 29);
        PendulumHall wide = hung(8, 15, 15);
        for (int bob = 0; bob < 8; bob++) {
            wide.pull(bob, bob % 2 == 0 ? 100000 : -100000, 100000);
        }
        Check.due("a long is due", wide.energy(), 10000000000L * (16 * 8 + 15 * 8 + 15 * 7 * 4));
    }

    private static void shares() {
        PendulumHall hall = new PendulumHall();
        Check.dueFloat("share at rest", hall.share(), 0f);
        hall.chain(2, 2, 3);
        hall.pull(0, 5, -2);
        hall.pull(1, -4, 3);
        Check.dueFloat("share of two", hall.share(), 266.5f);
        hall.chain(3, 1, 0);
        hall.pull(1, 1, 0);
        Check.dueFloat("a third", hall.share(), 1f / 3f);
        // 16785409 as a float is 16785408.
        hall.pull(1, 4097, 0);
        Check.dueFloat("share of three", hall.share(), 5595136f);
        hall.chain(1, 1, 0);
        hall.pull(0, 4097, 0);
        Check.dueFloat("share of one", hall.share(), 16785408f);
    }

    private static void wrongInputs() {
        PendulumHall hall = new PendulumHall();
        Check.dueRange("chain's bobs", 1, 8, Check.ILLEGAL, bobs -> hall.chain(bobs, 0, 0));
        Check.dueRange("chain's k", 0, 15, Check.ILLEGAL, k -> hall.chain(1, k, 0));
        Check.dueRange("chain's c", 0, 15, Check.ILLEGAL, c -> hall.chain(1, 0, c));
        hall.chain(3, 0, 0);
        Check.dueRange("pull's bob", 0, 2, Check.INDEX, bob -> hall.pull(bob, 0, 0));
        Check.dueRange("pull's place", -100000, 100000, Check.ILLEGAL, place -> hall.pull(0, place, 0));
        Check.dueRange("pull's speed", -100000, 100000, Check.ILLEGAL, speed -> hall.pull(0, 0, speed));
        Check.dueThrow("no bob and a bad place", Check.INDEX, () -> hall.pull(3, 100001, 0));
        Check.dueThrow("no bob and a bad speed", Check.INDEX, () -> hall.pull(-1, 0, 100001));
        Check.dueRange("bob's place", 0, 2, Check.INDEX, bob -> hall.bob(bob, false));
        Check.dueRange("bob's speed", 0, 2, Check.INDEX, bob -> hall.bob(bob, true));
        Check.dueRange("step's n", 1, 1000, Check.ILLEGAL, hall::step);
        Check.dueRange("back's n", 1, 1000, Check.ILLEGAL, hall::back);
        Check.dueRange("drive's air", 0, 100, Check.ILLEGAL, air -> hall.drive(air, 0));
        Check.dueRange("drive's push", -1000, 1000, Check.ILLEGAL, push -> hall.drive(0, push));
    }

    private static void wrongCallsChangeNothing() {
        PendulumHall hall = hung(2, 3, 4);
        hall.pull(0, -10, 30);
        hall.pull(1, 9, 8);
        Check.dueThrow("chain's bobs", Check.ILLEGAL, () -> hall.chain(9, 0, 0));
        Check.dueThrow("chain's k", Check.ILLEGAL, () -> hall.chain(1, 16, 0));
        Check.dueThrow("chain's c", Check.ILLEGAL, () -> hall.chain(1, 0, -1));
        Check.dueThrow("pull's place", Check.ILLEGAL, () -> hall.pull(0, 100001, 1));
        Check.dueThrow("pull's speed", Check.ILLEGAL, () -> hall.pull(0, 1, -100001));
        Check.dueThrow("drive's air", Check.ILLEGAL, () -> hall.drive(101, 1));
        Check.dueThrow("drive's push", Check.ILLEGAL, () -> hall.drive(1, 1001));
        Check.dueThrow("step", Check.ILLEGAL, () -> hall.step(0));
        Check.dueThrow("back", Check.ILLEGAL, () -> hall.back(0));
        bob(hall, 0, -10, 30);
        bob(hall, 1, 9, 8);
        Check.due("energy", hall.energy(), 16 * 964 + 3 * 181 + 4 * 361);
        Check.due("neither air nor push", hall.back(1), 1);
        Check.due("step", hall.step(1), 1);
        bob(hall, 0, -10, 30);
        Check.due("bobs", hall.chain(1, 0, 0), 2);
    }
}
