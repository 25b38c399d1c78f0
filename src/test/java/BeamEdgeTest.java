/** Promises 12 to 14 at their boundaries, a test for each sentence that names one. */
public final class BeamEdgeTest {
    public static void main(String[] args) {
        pullAtItsEdges();
        pullByOneEdgeFurther();
        couplingRoundedDown();
        remainderAtAThousand();
        remainderNotBelowZero();
        argumentsAtTheirEnds();
        noTicksAndMany();
        roundOfOnePhase();
        roundOfAllPhases();
        roundTicksUntilItIsComeTo();
        roundTurnBelowZero();
        roundTurnsOfTwoInATick();
        roundIsTheShortest();
        tongueDetuningsFirstAndLast();
        tongueTurnsOfTheRoundAlone();
        tongueFromThePhaseZero();
        tongueToldInOtherNumbers();
        Check.end();
    }

    private static void tick(String why, int w, int c, int d, int want) {
        Check.due("12: " + why + ": " + w + " " + c + " " + d, Halls.asked().phase(w, c, d, 1), want);
    }

    private static void round(String why, int w, int c, int d, int period, int turns, int lead) {
        String call = "13: " + why + ": " + w + " " + c + " " + d;
        Check.due(call + " period", Halls.asked().round(w, c, d, 0), period);
        Check.due(call + " turns", Halls.asked().round(w, c, d, 1), turns);
        Check.due(call + " ticks until it", Halls.asked().round(w, c, d, 2), lead);
    }

    private static void tongue(String why, int c, int turns, int period, int want) {
        Check.due("14: " + why + ": " + c + " " + turns + " " + period,
                Halls.asked().tongue(c, turns, period), want);
    }

    // "d below 250; 500 less d from 250 to 749; d less 1000 from 750 on", by c of 100 and 300

    private static void pullAtItsEdges() {
        tick("pull 249", 0, 100, 249, 0);
        tick("pull 250", 0, 100, 250, 0);
        tick("pull -249", 0, 100, 749, 998);
        tick("pull -250", 0, 100, 750, 0);
        tick("three times 249", 0, 300, 249, 502);
        tick("three times 250", 0, 300, 250, 500);
        tick("three times -249", 0, 300, 749, 496);
        tick("three times -250", 0, 300, 750, 500);
    }

    private static void pullByOneEdgeFurther() {
        tick("pull 248", 0, 100, 248, 0);
        tick("pull 249 from above", 0, 100, 251, 2);
        tick("pull 0 at 500", 0, 100, 500, 500);
        tick("pull 1", 0, 100, 499, 498);
        tick("pull -1", 0, 100, 501, 502);
        tick("pull -248", 0, 100, 748, 996);
        tick("pull -249 from above", 0, 100, 751, 0);
        tick("pull 0", 0, 100, 0, 0);
        tick("pull 1 at 1", 0, 100, 1, 0);
        tick("pull -1 at 999", 0, 100, 999, 0);
    }

    // "(c times the pull of d, by 100)", rounded down, also below 0

    private static void couplingRoundedDown() {
        tick("0.99 is 0", 0, 99, 1, 1);
        tick("1 is 1", 0, 100, 1, 0);
        tick("1.99 is 1", 0, 199, 1, 0);
        tick("-0.01 is -1", 0, 1, 999, 0);
        tick("-1 is -1", 0, 100, 999, 0);
        tick("-1.01 is -2", 0, 101, 999, 1);
        tick("-0.01 is -1 at 501", 0, 1, 501, 502);
        tick("no coupling", 0, 0, 999, 999);
    }

    // "of that the remainder by 1000"

    private static void remainderAtAThousand() {
        tick("999", 1, 0, 998, 999);
        tick("1000", 1, 0, 999, 0);
        tick("1998", 999, 0, 999, 998);
        tick("1999", 503, 300, 749, 999);
        tick("2000", 504, 300, 749, 0);
        tick("2495", 999, 300, 749, 495);
    }

    // "which is not below 0"

    private static void remainderNotBelowZero() {
        tick("0", 0, 100, 100, 0);
        tick("-1", 0, 101, 100, 999);
        tick("-498", 0, 300, 249, 502);
        tick("-500", 0, 300, 250, 500);
        tick("-1 by w", 499, 300, 250, 999);
        tick("0 by w", 500, 300, 250, 0);
    }

    private static void argumentsAtTheirEnds() {
        tick("w and d of 0", 0, 300, 0, 0);
        tick("w of 999", 999, 0, 0, 999);
        tick("d of 999", 0, 300, 999, 2);
        int[][] bad = {{-1, 0, 0}, {1000, 0, 0}, {0, -1, 0}, {0, 301, 0}, {0, 0, -1}, {0, 0, 1000}};
        for (int[] a : bad) {
            Check.dueThrow("12: out of range", Check.ILLEGAL, () -> Halls.asked().phase(a[0], a[1], a[2], 0));
            Check.dueThrow("13: out of range", Check.ILLEGAL, () -> Halls.asked().round(a[0], a[1], a[2], 0));
        }
        Check.dueThrow("12: n -1", Check.ILLEGAL, () -> Halls.asked().phase(0, 0, 0, -1));
        Check.dueThrow("12: n 10001", Check.ILLEGAL, () -> Halls.asked().phase(0, 0, 0, 10001));
        Check.dueThrow("13: what -1", Check.ILLEGAL, () -> Halls.asked().round(0, 0, 0, -1));
        Check.dueThrow("13: what 3", Check.ILLEGAL, () -> Halls.asked().round(0, 0, 0, 3));
        Check.dueThrow("14: c -1", Check.ILLEGAL, () -> Halls.asked().tongue(-1, 0, 1));
        Check.dueThrow("14: c 301", Check.ILLEGAL, () -> Halls.asked().tongue(301, 0, 1));
        Check.dueThrow("14: turns -1", Check.ILLEGAL, () -> Halls.asked().tongue(300, -1, 1));
        Check.dueThrow("14: turns 101", Check.ILLEGAL, () -> Halls.asked().tongue(300, 101, 100));
        Check.dueThrow("14: period 0", Check.ILLEGAL, () -> Halls.asked().tongue(300, 0, 0));
        Check.dueThrow("14: period 101", Check.ILLEGAL, () -> Halls.asked().tongue(300, 0, 101));
    }

    private static void noTicksAndMany() {
        Check.due("12: no ticks", Halls.asked().phase(7, 150, 123, 0), 123);
        Check.due("12: no ticks at 999", Halls.asked().phase(999, 300, 999, 0), 999);
        Check.due("12: one tick", Halls.asked().phase(7, 0, 123, 1), 130);
        Check.due("12: 10000 ticks", Halls.asked().phase(999, 0, 0, 10000), 0);
        Check.due("12: 9999 ticks", Halls.asked().phase(999, 0, 0, 9999), 1);
    }

    // 13: "the shortest row of PHASES that comes again and again"

    private static void roundOfOnePhase() {
        round("stays at 0", 0, 300, 0, 1, 0, 0);
        round("stays at 999 without coupling", 0, 0, 999, 1, 0, 0);
        round("stays at 500", 0, 300, 500, 1, 0, 0);
        round("once round in each tick", 999, 100, 999, 1, 1, 0);
    }

    private static void roundOfAllPhases() {
        round("by 1", 1, 0, 0, 1000, 1, 0);
        round("by 1 from the end", 1, 0, 999, 1000, 1, 0);
        round("by 999", 999, 0, 500, 1000, 999, 0);
        round("by 3", 3, 0, 7, 1000, 3, 0);
    }

    // "how many TICKS go by until a PHASE of it is come to, 0 if d is one"

    private static void roundTicksUntilItIsComeTo() {
        round("0 if d is one", 100, 100, 100, 1, 0, 0);
        round("one tick", 100, 100, 99, 1, 0, 1);
        // 40 is halved to 20, 10, 5, 3, 2, 1: 1 by 2 is 0, so that 1 stays.
        round("six ticks", 0, 50, 40, 1, 0, 6);
        round("none if 1 is where it stays", 0, 50, 1, 1, 0, 0);
        round("long drawn in", 153, 10, 837, 46, 7, 362);
        Check.due("13: its phase is not come to again", Halls.asked().phase(153, 10, 837, 361)
                == Halls.asked().phase(153, 10, 837, 361 + 46), false);
        Check.due("13: the next one is", Halls.asked().phase(153, 10, 837, 362),
                Halls.asked().phase(153, 10, 837, 362 + 46));
    }

    // "its turns are those of all these TICKS, together, perhaps below 0"

    private static void roundTurnBelowZero() {
        // 1 goes to -1, which is 999 and a turn back; 999 goes to 1001, a turn on.
        round("a turn back and one on", 0, 200, 1, 2, 0, 0);
        round("the same from 999", 0, 200, 999, 2, 0, 0);
        // 250 goes to -500: the turn back is ahead of the round.
        round("a turn back ahead of it", 0, 300, 250, 1, 0, 1);
        // 100 goes to -1, which is 999, that to 1001, 1 to 0, and 0 stays.
        round("a turn back and one on ahead of it", 0, 101, 100, 1, 0, 3);
    }

    private static void roundTurnsOfTwoInATick() {
        // 0 goes to 999; 999 goes to 999 and 999 and 2, which is two turns.
        round("none and two", 999, 101, 0, 2, 2, 0);
        Check.due("13: its phase", Halls.asked().phase(999, 101, 0, 1), 999);
        Check.due("13: and back", Halls.asked().phase(999, 101, 0, 2), 0);
    }

    private static void roundIsTheShortest() {
        round("two phases", 500, 0, 0, 2, 1, 0);
        round("four phases", 250, 0, 1, 4, 1, 0);
        round("four phases, three turns", 750, 0, 1, 4, 3, 0);
        round("ten phases", 100, 0, 99, 10, 1, 0);
        round("the coupling at 500 is none", 500, 300, 0, 2, 1, 0);
    }

    // 14: "those of 0 to 999"

    private static void tongueDetuningsFirstAndLast() {
        tongue("0 alone", 0, 0, 1, 1);
        tongue("0 is one, and up to 250", 100, 0, 1, 251);
        tongue("750 to 999", 100, 1, 1, 250);
        tongue("0 to 2", 1, 0, 1, 3);
        tongue("997 to 999", 1, 1, 1, 3);
        tongue("990 alone", 0, 99, 100, 1);
        tongue("10 alone", 0, 1, 100, 1);
        tongue("none between", 0, 1, 99, 0);
    }

    // "the turns of the ROUND, times the period told, are the turns told, times its PERIOD"

    private static void tongueTurnsOfTheRoundAlone() {
        int locked = 0;
        for (int w = 0; w < 1000; w++) {
            if (Halls.asked().round(w, 300, 0, 1) * 2 == Halls.asked().round(w, 300, 0, 0)) {
                locked++;
            }
        }
        tongue("ticks ahead of the round don't count", 300, 1, 2, locked);
        tongue("as many as by hand", 300, 1, 2, 71);
    }

    private static void tongueFromThePhaseZero() {
        int locked = 0;
        int elsewhere = 0;
        for (int w = 0; w < 1000; w++) {
            locked += Halls.asked().round(w, 200, 0, 1) == 0 ? 1 : 0;
            elsewhere += Halls.asked().round(w, 200, 500, 1) == 0 ? 1 : 0;
        }
        tongue("from 0 on", 200, 0, 1, locked);
        Check.due("14: from 500 on there would be others", locked != elsewhere, true);
        tongue("from 0 on, as by hand", 200, 0, 1, 459);
    }

    private static void tongueToldInOtherNumbers() {
        tongue("1 in 2", 100, 1, 2, 167);
        tongue("50 in 100 is that", 100, 50, 100, 167);
        tongue("100 in 100 is 1 in 1", 100, 100, 100, 250);
        tongue("0 in 100 is 0 in 1", 100, 0, 100, 251);
        tongue("100 in 1 is none", 300, 100, 1, 0);
        tongue("2 in 1 is none", 300, 2, 1, 0);
        tongue("1 in 1 at the most coupling", 300, 1, 1, 131);
    }
}
