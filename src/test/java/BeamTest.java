import java.util.HashMap;
import java.util.Map;

/** Promises 12 to 14: phases, rounds and tongues. */
public final class BeamTest {
    public static void main(String[] args) {
        oneTick();
        manyTicks();
        roundsByHand();
        roundsByWalking();
        tonguesByHand();
        tonguesByWalking();
        wrongInputs();
        Check.end();
    }

    private static void tick(int w, int c, int d, int want) {
        Check.due("phase(" + w + ", " + c + ", " + d + ", 1)", Halls.asked().phase(w, c, d, 1), want);
    }

    private static void oneTick() {
        tick(0, 0, 0, 0);
        tick(1, 0, 998, 999);
        tick(1, 0, 999, 0);
        tick(999, 0, 999, 998);
        tick(0, 100, 249, 0);
        tick(0, 100, 250, 0);
        tick(0, 100, 251, 2);
        tick(0, 100, 499, 498);
        tick(0, 100, 500, 500);
        tick(0, 100, 501, 502);
        tick(0, 100, 749, 998);
        tick(0, 100, 750, 0);
        tick(0, 100, 999, 0);
        // The quotient is rounded down, above 0 and below.
        tick(0, 50, 1, 1);
        tick(0, 50, 3, 2);
        tick(0, 50, 999, 0);
        tick(0, 1, 999, 0);
        tick(0, 99, 1, 1);
        // Below 0 the remainder is not.
        tick(0, 300, 249, 502);
        tick(0, 300, 250, 500);
        tick(0, 300, 750, 500);
        tick(5, 200, 10, 995);
        tick(999, 300, 749, 495);
    }

    private static void manyTicks() {
        Check.due("no tick", Halls.asked().phase(17, 200, 421, 0), 421);
        Check.due("10000 ticks of 1", Halls.asked().phase(1, 0, 5, 10000), 5);
        Check.due("9999 ticks of 1", Halls.asked().phase(1, 0, 5, 9999), 4);
        Check.due("999 ticks of 3", Halls.asked().phase(3, 0, 0, 999), 997);
        Check.due("locked", Halls.asked().phase(100, 100, 0, 10000), 100);
        for (int w = 0; w < 1000; w += 37) {
            for (int c = 0; c <= 300; c += 25) {
                int phase = w * 7 % 1000;
                for (int n = 1; n <= 20; n++) {
                    phase = walked(w, c, phase)[0];
                    Check.due("phase by walking", Halls.asked().phase(w, c, w * 7 % 1000, n), phase);
                }
            }
        }
    }

    /** A tick by long division of its own: the phase and the turns. */
    private static int[] walked(int w, int c, int d) {
        int pull = d <= 249 ? d : d <= 749 ? 500 - d : d - 1000;
        int part = c * pull / 100;
        if (part * 100 > c * pull) {
            part--;
        }
        int phase = d + w - part;
        int turns = 0;
        while (phase >= 1000) {
            phase -= 1000;
            turns++;
        }
        while (phase < 0) {
            phase += 1000;
            turns--;
        }
        return new int[] {phase, turns};
    }

    /** Period, turns and lead, by a walk that notes each phase's tick. */
    private static int[] walkedRound(int w, int c, int d) {
        Map<Integer, Integer> tickOf = new HashMap<>();
        int phase = d;
        int ticks = 0;
        while (!tickOf.containsKey(phase)) {
            tickOf.put(phase, ticks);
            phase = walked(w, c, phase)[0];
            ticks++;
        }
        int lead = tickOf.get(phase);
        int turns = 0;
        for (int i = lead; i < ticks; i++) {
            int[] next = walked(w, c, phase);
            turns += next[1];
            phase = next[0];
        }
        return new int[] {ticks - lead, turns, lead};
    }

    private static void round(int w, int c, int d, int period, int turns, int lead) {
        String call = "round(" + w + ", " + c + ", " + d + ", ";
        Check.due(call + "0)", Halls.asked().round(w, c, d, 0), period);
        Check.due(call + "1)", Halls.asked().round(w, c, d, 1), turns);
        Check.due(call + "2)", Halls.asked().round(w, c, d, 2), lead);
    }

    private static void roundsByHand() {
        round(0, 0, 400, 1, 0, 0);
        round(1, 0, 400, 1000, 1, 0);
        round(999, 0, 0, 1000, 999, 0);
        round(400, 0, 3, 5, 2, 0);
        round(500, 0, 999, 2, 1, 0);
        // 0, 100, 100, ..
        round(100, 100, 0, 1, 0, 1);
        round(100, 100, 100, 1, 0, 0);
        // 999 is drawn to 0 and stays.
        round(0, 50, 999, 1, 0, 1);
        round(0, 100, 500, 1, 0, 0);
        // 250 goes to -500, one turn back, which is 500, and stays: the turn is not in the round.
        round(0, 300, 250, 1, 0, 1);
    }

    private static void roundsByWalking() {
        for (int w = 0; w < 1000; w += 41) {
            for (int c = 0; c <= 300; c += 20) {
                int d = (w * 3 + c * 11) % 1000;
                int[] want = walkedRound(w, c, d);
                round(w, c, d, want[0], want[1], want[2]);
            }
        }
        for (int d = 0; d < 1000; d += 13) {
            int[] want = walkedRound(2, 300, d);
            round(2, 300, d, want[0], want[1], want[2]);
        }
        for (int w = 990; w < 1000; w++) {
            for (int c = 290; c <= 300; c++) {
                int[] want = walkedRound(w, c, 249);
                round(w, c, 249, want[0], want[1], want[2]);
            }
        }
    }

    private static void tongue(int c, int turns, int period, int want) {
        Check.due("tongue(" + c + ", " + turns + ", " + period + ")",
                Halls.asked().tongue(c, turns, period), want);
    }

    private static void tonguesByHand() {
        // Without coupling only one detuning makes so many turns in such a period.
        tongue(0, 0, 1, 1);
        tongue(0, 0, 100, 1);
        tongue(0, 1, 1, 0);
        tongue(0, 1, 2, 1);
        tongue(0, 50, 100, 1);
        tongue(0, 1, 3, 0);
        tongue(0, 100, 1, 0);
        tongue(0, 99, 100, 1);
        tongue(0, 3, 8, 1);
    }

    private static void tonguesByWalking() {
        int[][] told = {{0, 1}, {1, 1}, {1, 2}, {2, 4}, {1, 3}, {33, 99}, {2, 5}, {100, 100}, {7, 10}};
        for (int c : new int[] {0, 30, 100, 149, 220, 300}) {
            int[][] rounds = new int[1000][];
            for (int w = 0; w < 1000; w++) {
                rounds[w] = walkedRound(w, c, 0);
            }
            for (int[] lock : told) {
                int want = 0;
                for (int[] round : rounds) {
                    if (round[1] * lock[1] == lock[0] * round[0]) {
                        want++;
                    }
                }
                tongue(c, lock[0], lock[1], want);
            }
        }
    }

    private static void wrongInputs() {
        Check.dueRange("phase's w", 0, 999, Check.ILLEGAL, w -> Halls.asked().phase(w, 0, 0, 1));
        Check.dueRange("phase's c", 0, 300, Check.ILLEGAL, c -> Halls.asked().phase(0, c, 0, 1));
        Check.dueRange("phase's d", 0, 999, Check.ILLEGAL, d -> Halls.asked().phase(0, 0, d, 1));
        Check.dueRange("phase's n", 0, 10000, Check.ILLEGAL, n -> Halls.asked().phase(0, 0, 0, n));
        Check.dueRange("round's w", 0, 999, Check.ILLEGAL, w -> Halls.asked().round(w, 0, 0, 1));
        Check.dueRange("round's c", 0, 300, Check.ILLEGAL, c -> Halls.asked().round(0, c, 0, 1));
        Check.dueRange("round's d", 0, 999, Check.ILLEGAL, d -> Halls.asked().round(0, 0, d, 1));
        Check.dueRange("round's what", 0, 2, Check.ILLEGAL, what -> Halls.asked().round(0, 0, 0, what));
        Check.dueRange("tongue's c", 0, 300, Check.ILLEGAL, c -> Halls.asked().tongue(c, 1, 1));
        Check.dueRange("tongue's turns", 0, 100, Check.ILLEGAL, turns -> Halls.asked().tongue(100, turns, 1));
        Check.dueRange("tongue's period", 1, 100, Check.ILLEGAL, period -> Halls.asked().tongue(100, 1, period));
    }
}
