/** Promise 38: count. */
public final class CountTest {
    public static void main(String[] args) {
        PendulumHall hall = new PendulumHall();
        counts(hall, 0, 0, 0, 0, 1, 1);
        hall.clock(PendulumHall.BRASS, 5, true, 0);
        counts(hall, 1, 1, 0, 0, 1, 1);
        hall.clock(PendulumHall.WOOD, 5, true, 0);
        hall.clock(PendulumHall.WOOD, 5, true, 0);
        hall.set(2, -501);
        counts(hall, 3, 2, 0, 0, 1, 1);
        hall.read(0, 0, 1);
        hall.read(3, 1, 2);
        hall.read(4, 2, 2);
        hall.read(0, 3, 2);
        counts(hall, 3, 2, 4, 0, 1, 1);
        hall.close();
        counts(hall, 3, 2, 0, 3, 3, 1);
        hall.datum(9, 0);
        counts(hall, 3, 2, 0, 3, 1, 1);
        hall.datum(4, 0);
        counts(hall, 3, 2, 0, 3, 3, 1);
        hall.read(9, 0, 0);
        hall.read(8, 4, 0);
        hall.read(9, 5, 0);
        hall.close();
        counts(hall, 3, 2, 0, 4, 3, 1);
        hall.chain(6, 1, 1);
        counts(hall, 3, 2, 0, 4, 3, 6);
        hall.read(4, 0, 0);
        hall.read(8, 4, 0);
        hall.read(4, 5, 0);
        hall.close();
        counts(hall, 3, 2, 0, 5, 5, 6);
        Check.dueRange("count's what", 0, 5, Check.ILLEGAL, hall::count);
        counts(hall, 3, 2, 0, 5, 5, 6);
        Check.end();
    }

    private static void counts(PendulumHall hall, int... wants) {
        for (int what = 0; what < wants.length; what++) {
            Check.due("count(" + what + ")", hall.count(what), wants[what]);
        }
    }
}
