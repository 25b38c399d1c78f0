/** Promises 26 to 29 at their boundaries, a test for each sentence that names one. */
public final class DrivenEdgeTest {
    private static final int NONE = PendulumHall.NONE;

    public static void main(String[] args) {
        noMoves();
        placeAndSpeedAtTheirEnds();
        sixtyThreeAndOneIsZero();
        belowZeroIsSixtyThree();
        shakeBelowAndFromThirtyTwoOn();
        shakeRoundedBelowTheOtherSign();
        driveRoundedDown();
        driveAtItsEnds();
        movesUndone();
        mostMovesThereAndBack();
        drivenOutOfRange();
        roundOfOneState();
        roundsOfAllSpeeds();
        returnsOutOfRange();
        roundsOfEachLength();
        roundsOfAll();
        roundsOutOfRange();
        partingWithoutMoves();
        partingBesideSixtyThree();
        partingHalfWayRound();
        partingOutOfRange();
        Check.end();
    }

    private static void driven(String why, int place, int speed, int k, int n, int thenPlace, int thenSpeed) {
        Check.due("26: " + why + ": " + place + " " + speed + " " + k + " " + n,
                Halls.asked().driven(place, speed, k, n), 64 * thenPlace + thenSpeed);
    }

    private static void returns(String why, int place, int speed, int k, int want) {
        Check.due("27: " + why + ": " + place + " " + speed + " " + k,
                Halls.asked().returns(place, speed, k), want);
    }

    private static void rounds(String why, int k, int length, int want) {
        Check.due("28: " + why + ": " + k + " " + length, Halls.asked().rounds(k, length), want);
    }

    private static void parting(String why, int place, int speed, int k, int n, int want) {
        Check.due("29: " + why + ": " + place + " " + speed + " " + k + " " + n,
                Halls.asked().parting(place, speed, k, n), want);
    }

    private static void noMoves() {
        driven("no moves", 0, 0, 200, 0, 0, 0);
        driven("no moves", 63, 63, 200, 0, 63, 63);
        driven("no moves", 1, 62, 77, 0, 1, 62);
    }

    // "64 times the place, and the speed", "each 0 to 63"

    private static void placeAndSpeedAtTheirEnds() {
        driven("0 and 0 stay", 0, 0, 200, 1, 0, 0);
        driven("0 and 63", 0, 63, 200, 1, 63, 63);
        driven("63 and 0", 63, 0, 0, 1, 63, 0);
        driven("63 and 63", 63, 63, 0, 1, 62, 63);
        driven("63 and 0, driven", 63, 0, 1, 1, 62, 63);
        driven("63 and 63, driven", 63, 63, 200, 1, 24, 25);
        driven("0 and 0, undone", 0, 0, 200, -1, 0, 0);
        driven("0 and 63, undone", 0, 63, 200, -1, 1, 26);
        driven("63 and 0, undone", 63, 0, 200, -1, 63, 38);
        driven("63 and 63, undone", 63, 63, 200, -1, 0, 63);
    }

    // "the remainder by 64, not below 0"

    private static void sixtyThreeAndOneIsZero() {
        driven("the place 62 and 1", 62, 1, 0, 1, 63, 1);
        driven("the place 63 and 1", 63, 1, 0, 1, 0, 1);
        driven("the speed 60 and 3", 1, 60, 16, 1, 0, 63);
        driven("the speed 61 and 3", 1, 61, 16, 1, 1, 0);
    }

    private static void belowZeroIsSixtyThree() {
        driven("the speed 3 less 3", 33, 3, 16, 1, 33, 0);
        driven("the speed 2 less 3", 33, 2, 16, 1, 32, 63);
        driven("the place 1 less 1", 1, 1, 0, -1, 0, 1);
        driven("the place 0 less 1", 0, 1, 0, -1, 63, 1);
        driven("far below 0", 48, 0, 200, 1, (48 + 64 * 7 - 400) % 64, (64 * 7 - 400) % 64);
    }

    // "x times (32 less x), by 8, for x below 32"

    private static void shakeBelowAndFromThirtyTwoOn() {
        driven("shake 0 at 0", 0, 0, 16, 1, 0, 0);
        driven("shake 3 at 1", 1, 0, 16, 1, 4, 3);
        driven("shake 32 at 16", 16, 0, 16, 1, 48, 32);
        driven("shake 7 at 30", 30, 0, 16, 1, 37, 7);
        driven("shake 3 at 31", 31, 0, 16, 1, 34, 3);
        driven("shake 0 at 32", 32, 0, 16, 1, 32, 0);
        driven("shake -3 at 33", 33, 0, 16, 1, 30, 61);
        driven("shake -7 at 34", 34, 0, 16, 1, 27, 57);
        driven("shake -32 at 48", 48, 0, 16, 1, 16, 32);
        driven("shake -3 at 63", 63, 0, 16, 1, 60, 61);
    }

    // "the shake of x less 32, which is rounded, with the other sign": -3 and not -4

    private static void shakeRoundedBelowTheOtherSign() {
        driven("31 by 8 is 3, with the other sign", 33, 10, 16, 1, 40, 7);
        driven("60 by 8 is 7, with the other sign", 34, 10, 16, 1, 37, 3);
        driven("112 by 8 is 14", 36, 20, 16, 1, 42, 6);
    }

    // "(k times the shake of the place, by 16)", rounded down

    private static void driveRoundedDown() {
        driven("3 by 16 is 0", 1, 5, 1, 1, 6, 5);
        driven("15 by 16 is 0", 1, 5, 5, 1, 6, 5);
        driven("18 by 16 is 1", 1, 5, 6, 1, 7, 6);
        driven("48 by 16 is 3", 1, 5, 16, 1, 9, 8);
        driven("-3 by 16 is -1", 33, 5, 1, 1, 37, 4);
        driven("-15 by 16 is -1", 33, 5, 5, 1, 37, 4);
        driven("-18 by 16 is -2", 33, 5, 6, 1, 36, 3);
        driven("-48 by 16 is -3", 33, 5, 16, 1, 35, 2);
        driven("-51 by 16 is -4", 33, 5, 17, 1, 34, 1);
    }

    private static void driveAtItsEnds() {
        driven("no drive", 16, 5, 0, 1, 21, 5);
        driven("the most drive", 16, 5, 200, 1, (16 + 405 % 64) % 64, 405 % 64);
        driven("no drive, undone", 16, 5, 0, -1, 11, 5);
    }

    // "below 0 for MOVES that are undone"

    private static void movesUndone() {
        int[][] states = {{0, 0}, {0, 63}, {63, 0}, {63, 63}, {1, 0}, {31, 31}, {32, 32}, {33, 1}};
        for (int[] state : states) {
            for (int k : new int[] {0, 1, 16, 199, 200}) {
                for (int n : new int[] {1, 2, 3, 64}) {
                    int on = Halls.asked().driven(state[0], state[1], k, n);
                    driven("undone", on / 64, on % 64, k, -n, state[0], state[1]);
                    int back = Halls.asked().driven(state[0], state[1], k, -n);
                    driven("done again", back / 64, back % 64, k, n, state[0], state[1]);
                }
            }
        }
    }

    private static void mostMovesThereAndBack() {
        driven("10000 moves of 1", 0, 1, 0, 10000, 16, 1);
        driven("9999 moves of 1", 0, 1, 0, 9999, 15, 1);
        driven("10000 moves undone", 0, 1, 0, -10000, 48, 1);
        driven("9999 moves undone", 0, 1, 0, -9999, 49, 1);
        int far = Halls.asked().driven(63, 63, 200, 10000);
        driven("10000 of the most drive, undone", far / 64, far % 64, 200, -10000, 63, 63);
    }

    private static void drivenOutOfRange() {
        int[][] bad = {{-1, 0, 0, 0}, {64, 0, 0, 0}, {0, -1, 0, 0}, {0, 64, 0, 0},
            {0, 0, -1, 0}, {0, 0, 201, 0}, {0, 0, 0, -10001}, {0, 0, 0, 10001}};
        for (int[] a : bad) {
            Check.dueThrow("26: out of range", Check.ILLEGAL,
                    () -> Halls.asked().driven(a[0], a[1], a[2], a[3]));
        }
    }

    // 27: "it is as long as there are states in it"

    private static void roundOfOneState() {
        returns("at rest", 0, 0, 200, 1);
        returns("at rest, the other way up", 32, 0, 200, 1);
        returns("at rest without drive", 63, 0, 0, 1);
        returns("3 by 16 is none", 1, 0, 5, 1);
        // 18 by 16 is 1.
        Check.due("27: no longer at rest", Halls.asked().returns(1, 0, 6) > 1, true);
    }

    private static void roundsOfAllSpeeds() {
        returns("all places", 0, 1, 0, 64);
        returns("all places", 63, 63, 0, 64);
        returns("two places", 5, 32, 0, 2);
        returns("four places", 5, 16, 0, 4);
        returns("from 0 and 63", 0, 63, 1, 148);
        returns("from 63 and 0", 63, 0, 1, 149);
        returns("from 63 and 0", 63, 0, 200, 135);
        returns("from 63 and 63", 63, 63, 200, 168);
        // The longest one of all drives.
        returns("the longest", 0, 3, 111, 620);
        int after = Halls.asked().driven(0, 3, 111, 620);
        Check.due("27: it comes again", after, 3);
    }

    private static void returnsOutOfRange() {
        int[][] bad = {{-1, 0, 0}, {64, 0, 0}, {0, -1, 0}, {0, 64, 0}, {0, 0, -1}, {0, 0, 201}};
        for (int[] a : bad) {
            Check.dueThrow("27: out of range", Check.ILLEGAL, () -> Halls.asked().returns(a[0], a[1], a[2]));
        }
    }

    // 28: "just so long, or all", "1 to 4096, or NONE for all"

    private static void roundsOfEachLength() {
        rounds("of one state, no drive", 0, 1, 64);
        rounds("of two states", 0, 2, 32);
        rounds("of 63 states", 0, 63, 0);
        rounds("of 64 states", 0, 64, 32);
        rounds("of 65 states", 0, 65, 0);
        rounds("of one state", 200, 1, 2);
        rounds("of one state, little drive", 1, 1, 10);
        rounds("the longest", 200, 337, 1);
        rounds("longer", 200, 338, 0);
        rounds("the longest of all", 111, 620, 1);
        rounds("of all states at once", 111, 4096, 0);
        int states = 0;
        for (int length = 1; length <= 337; length++) {
            states += length * Halls.asked().rounds(200, length);
        }
        Check.due("28: each state is in one", states, 4096);
    }

    private static void roundsOfAll() {
        rounds("all without drive", 0, NONE, 256);
        rounds("all", 1, NONE, 64);
        rounds("all", 200, NONE, 66);
        rounds("all, asked again", 200, NONE, 66);
        PendulumHall hall = Halls.fresh();
        Check.due("28: first", hall.rounds(16, NONE), 126);
        hall.returns(5, 5, 99);
        Check.due("28: behind a walk", hall.rounds(16, NONE), 126);
    }

    private static void roundsOutOfRange() {
        int[][] bad = {{-1, 1}, {201, 1}, {0, 0}, {0, -2}, {0, 4097}, {-1, NONE}, {201, NONE}};
        for (int[] a : bad) {
            Check.dueThrow("28: out of range", Check.ILLEGAL, () -> Halls.asked().rounds(a[0], a[1]));
        }
    }

    // 29: "the second one at the place 1 further (beside 63 at 0)"

    private static void partingWithoutMoves() {
        parting("no moves", 0, 0, 200, 0, 1);
        parting("no moves", 62, 63, 200, 0, 1);
    }

    private static void partingBesideSixtyThree() {
        parting("no moves", 63, 63, 200, 0, 1);
        parting("a move without drive", 63, 63, 0, 1, 1);
        // 63 goes to 60 with 61, 0 stays with 0: 4 and 3.
        parting("a move", 63, 0, 16, 1, 7);
        // 62 goes to 55 with 57, 63 to 60 with 61: 5 and 4.
        parting("beside that", 62, 0, 16, 1, 9);
    }

    // "the shorter way round the 64"

    private static void partingHalfWayRound() {
        // 22 and 53: 31; 21 and 51: 30.
        parting("31 apart", 1, 0, 117, 1, 31 + 30);
        // 23 and 55: 32; 22 and 53: 31.
        parting("32 apart", 1, 0, 122, 1, 32 + 31);
        // 24 and 57: 33, which is 31; 23 and 55: 32.
        parting("33 apart is 31", 1, 0, 126, 1, 31 + 32);
        // 25 and 59: 34, which is 30; 24 and 57: 33, which is 31.
        parting("speeds 33 apart", 1, 0, 131, 1, 30 + 31);
        // 32 stays with 0; 33 goes to 32 with 63.
        parting("the same place, speeds 63 apart", 32, 0, 1, 1, 0 + 1);
    }

    private static void partingOutOfRange() {
        int[][] bad = {{-1, 0, 0, 0}, {64, 0, 0, 0}, {0, -1, 0, 0}, {0, 64, 0, 0},
            {0, 0, -1, 0}, {0, 0, 201, 0}, {0, 0, 0, -1}, {0, 0, 0, 10001}};
        for (int[] a : bad) {
            Check.dueThrow("29: out of range", Check.ILLEGAL,
                    () -> Halls.asked().parting(a[0], a[1], a[2], a[3]));
        }
    }
}
