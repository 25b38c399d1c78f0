/** Promises 26 to 29: moves, rounds and parting of the driven one. */
public final class DrivenTest {
    public static void main(String[] args) {
        movesByHand();
        movesByWalking();
        roundsByHand();
        roundsByWalking();
        partings();
        wrongInputs();
        Check.end();
    }

    private static void driven(int place, int speed, int k, int n, int want) {
        Check.due("driven(" + place + ", " + speed + ", " + k + ", " + n + ")",
                Halls.asked().driven(place, speed, k, n), want);
    }

    private static void move(int place, int speed, int k, int thenPlace, int thenSpeed) {
        driven(place, speed, k, 1, 64 * thenPlace + thenSpeed);
        driven(thenPlace, thenSpeed, k, -1, 64 * place + speed);
    }

    private static void movesByHand() {
        driven(63, 62, 200, 0, 64 * 63 + 62);
        move(0, 0, 200, 0, 0);
        move(0, 5, 200, 5, 5);
        move(63, 1, 0, 0, 1);
        move(1, 0, 16, 4, 3);
        move(16, 0, 16, 48, 32);
        move(31, 0, 16, 34, 3);
        move(32, 0, 200, 32, 0);
        move(33, 0, 16, 30, 61);
        move(48, 0, 16, 16, 32);
        move(63, 0, 16, 60, 61);
        // 3 by 16 is 0, -3 by 16 is -1.
        move(1, 0, 1, 1, 0);
        move(33, 0, 1, 32, 63);
        // The shake of 33 is that of 1 with the other sign: -3, not -4.
        move(33, 10, 16, 40, 7);
        move(5, 60, 200, 5 + 60 + 200 * 16 / 16 - 256, (60 + 200) % 64);
        driven(1, 0, 16, 2, 64 * (4 + 17) + 17);
        driven(0, 1, 0, 10000, 64 * 16 + 1);
        driven(0, 1, 0, -10000, 64 * 48 + 1);
        driven(0, 1, 0, 9999, 64 * 15 + 1);
    }

    private static int shake(int place) {
        if (place >= 32) {
            return -shake(place - 32);
        }
        return (place * (32 - place) - place * (32 - place) % 8) / 8;
    }

    private static int[] walked(int place, int speed, int k) {
        int kick = (int) Math.floor(k * shake(place) / 16.0);
        int thenSpeed = ((speed + kick) % 64 + 64) % 64;
        return new int[] {(place + thenSpeed) % 64, thenSpeed};
    }

    private static void movesByWalking() {
        for (int k = 0; k <= 200; k += 23) {
            for (int place = 0; place < 64; place++) {
                int[] state = {place, (place * 7 + k) % 64};
                for (int n = 1; n <= 12; n++) {
                    state = walked(state[0], state[1], k);
                    driven(place, (place * 7 + k) % 64, k, n, 64 * state[0] + state[1]);
                    driven(state[0], state[1], k, -n, 64 * place + (place * 7 + k) % 64);
                }
            }
        }
        int far = Halls.asked().driven(11, 22, 33, 10000);
        driven(far / 64, far % 64, 33, -10000, 64 * 11 + 22);
    }

    private static void returns(int place, int speed, int k, int want) {
        Check.due("returns(" + place + ", " + speed + ", " + k + ")",
                Halls.asked().returns(place, speed, k), want);
    }

    private static void rounds(int k, int length, int want) {
        Check.due("rounds(" + k + ", " + length + ")", Halls.asked().rounds(k, length), want);
    }

    private static void roundsByHand() {
        returns(9, 0, 0, 1);
        returns(9, 1, 0, 64);
        returns(9, 6, 0, 32);
        returns(9, 32, 0, 2);
        returns(0, 0, 200, 1);
        returns(32, 0, 200, 1);
        rounds(0, PendulumHall.NONE, 256);
        rounds(0, 1, 64);
        rounds(0, 2, 32);
        rounds(0, 32, 32);
        rounds(0, 64, 32);
        rounds(0, 3, 0);
        rounds(0, 63, 0);
        rounds(0, 65, 0);
        rounds(0, 4096, 0);
    }

    private static void roundsByWalking() {
        for (int k : new int[] {1, 5, 16, 77, 128, 199, 200}) {
            boolean[][] seen = new boolean[64][64];
            int[] ofLength = new int[4097];
            int all = 0;
            for (int place = 0; place < 64; place++) {
                for (int speed = 0; speed < 64; speed++) {
                    int length = 0;
                    int[] state = {place, speed};
                    boolean isNew = !seen[place][speed];
                    do {
                        seen[state[0]][state[1]] = true;
                        state = walked(state[0], state[1], k);
                        length++;
                    } while (state[0] != place || state[1] != speed);
                    if ((place * 64 + speed) % 5 == 0) {
                        returns(place, speed, k, length);
                    }
                    if (isNew) {
                        ofLength[length]++;
                        all++;
                    }
                }
            }
            rounds(k, PendulumHall.NONE, all);
            for (int length = 1; length <= 4096; length++) {
                if (ofLength[length] > 0 || length % 512 == 0) {
                    rounds(k, length, ofLength[length]);
                }
            }
        }
    }

    private static int shorter(int from, int to) {
        int way = Math.abs(from - to);
        return way > 32 ? 64 - way : way;
    }

    private static void partings() {
        Check.due("no move", Halls.asked().parting(7, 7, 77, 0), 1);
        Check.due("no move, beside 63 at 0", Halls.asked().parting(63, 7, 77, 0), 1);
        Check.due("no drive", Halls.asked().parting(12, 5, 0, 10000), 1);
        // 1 goes to 4, 2 to 9; their speeds are 3 and 7.
        Check.due("one move", Halls.asked().parting(1, 0, 16, 1), 5 + 4);
        for (int k = 0; k <= 200; k += 9) {
            for (int place = 0; place < 64; place += place == 60 ? 3 : 4) {
                int speed = (place + k * 3) % 64;
                int[] first = {place, speed};
                int[] second = {(place + 1) % 64, speed};
                for (int n = 1; n <= 15; n++) {
                    first = walked(first[0], first[1], k);
                    second = walked(second[0], second[1], k);
                    int want = shorter(first[0], second[0]) + shorter(first[1], second[1]);
                    Check.due("parting(" + place + ", " + speed + ", " + k + ", " + n + ")",
                            Halls.asked().parting(place, speed, k, n), want);
                }
            }
        }
    }

    private static void wrongInputs() {
        Check.dueRange("driven's place", 0, 63, Check.ILLEGAL, place -> Halls.asked().driven(place, 1, 1, 1));
        Check.dueRange("driven's speed", 0, 63, Check.ILLEGAL, speed -> Halls.asked().driven(1, speed, 1, 1));
        Check.dueRange("driven's k", 0, 200, Check.ILLEGAL, k -> Halls.asked().driven(1, 1, k, 1));
        Check.dueRange("driven's n", -10000, 10000, Check.ILLEGAL, n -> Halls.asked().driven(1, 1, 1, n));
        Check.dueRange("returns' place", 0, 63, Check.ILLEGAL, place -> Halls.asked().returns(place, 1, 1));
        Check.dueRange("returns' speed", 0, 63, Check.ILLEGAL, speed -> Halls.asked().returns(1, speed, 1));
        Check.dueRange("returns' k", 0, 200, Check.ILLEGAL, k -> Halls.asked().returns(1, 1, k));
        Check.dueRange("rounds' k", 0, 200, Check.ILLEGAL, k -> Halls.asked().rounds(k, 1));
        Check.dueThrow("rounds of length 0", Check.ILLEGAL, () -> Halls.asked().rounds(1, 0));
        Check.dueThrow("rounds of length -2", Check.ILLEGAL, () -> Halls.asked().rounds(1, -2));
        Check.dueThrow("rounds of length 4097", Check.ILLEGAL, () -> Halls.asked().rounds(1, 4097));
        Check.dueThrow("rounds of least length", Check.ILLEGAL, () -> Halls.asked().rounds(1, Integer.MIN_VALUE));
        Check.dueThrow("rounds of NONE, bad k", Check.ILLEGAL, () -> Halls.asked().rounds(201, PendulumHall.NONE));
        Check.dueRange("parting's place", 0, 63, Check.ILLEGAL, place -> Halls.asked().parting(place, 1, 1, 1));
        Check.dueRange("parting's speed", 0, 63, Check.ILLEGAL, speed -> Halls.asked().parting(1, speed, 1, 1));
        Check.dueRange("parting's k", 0, 200, Check.ILLEGAL, k -> Halls.asked().parting(1, 1, k, 1));
        Check.dueRange("parting's n", 0, 10000, Check.ILLEGAL, n -> Halls.asked().parting(1, 1, 1, n));
    }
}
