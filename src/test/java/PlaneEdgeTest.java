/** Promises 24 and 25 at their boundaries, a test for each sentence that names one. */
public final class PlaneEdgeTest {
    public static void main(String[] args) {
        atThePoles();
        besideThePoles();
        atTheEquator();
        besideTheEquator();
        noMinutes();
        mostMinutes();
        turnedOutOfRange();
        latitudeAtTheEnds();
        latitudeAtThePoles();
        latitudeAtNothing();
        latitudeOutOfRange();
        Check.end();
    }

    private static void turned(String why, int latitude, int minutes, float want) {
        Check.dueFloat("24: " + why + ": " + latitude + " " + minutes,
                Halls.asked().turned(latitude, minutes), want);
    }

    private static void latitude(String why, int hundredths, int want) {
        Check.due("25: " + why + ": " + hundredths, Halls.asked().latitude(hundredths), want);
    }

    /** By the document's order: s times the minutes, times 0.25f. */
    private static float byOrder(int m, int minutes) {
        float s = 4f * m / (40500f - m);
        return s * minutes * 0.25f;
    }

    private static void atThePoles() {
        turned("the north pole", 90, 1440, 360f);
        turned("the south pole", -90, 1440, -360f);
        turned("the south pole, a minute", -90, 1, -0.25f);
    }

    private static void besideThePoles() {
        turned("beside the north pole", 89, 1440, byOrder(8099, 1440));
        turned("beside the south pole", -89, 1440, -byOrder(8099, 1440));
    }

    private static void atTheEquator() {
        turned("the equator", 0, 1440, 0f);
        turned("the equator, long", 0, 100000, 0f);
    }

    private static void besideTheEquator() {
        turned("1", 1, 60, byOrder(179, 60));
        turned("-1 is 0 less that", -1, 60, 0f - byOrder(179, 60));
        turned("-1, a minute", -1, 1, 0f - byOrder(179, 1));
    }

    // 0f less 0f is 0f: no minutes have no sign

    private static void noMinutes() {
        for (int latitude : new int[] {-90, -1, 0, 1, 90}) {
            turned("no minutes", latitude, 0, 0f);
        }
    }

    private static void mostMinutes() {
        turned("100000 minutes", 90, 100000, 25000f);
        turned("100000 minutes", -90, 100000, -25000f);
        turned("100000 minutes", 45, 100000, byOrder(6075, 100000));
        turned("100000 minutes", -1, 100000, 0f - byOrder(179, 100000));
    }

    private static void turnedOutOfRange() {
        int[][] bad = {{-91, 0}, {91, 0}, {0, -1}, {0, 100001}, {Integer.MIN_VALUE, 0}};
        for (int[] a : bad) {
            Check.dueThrow("24: out of range", Check.ILLEGAL, () -> Halls.asked().turned(a[0], a[1]));
        }
    }

    private static void latitudeAtTheEnds() {
        latitude("the most", 2000, 90);
        latitude("the least", -2000, -90);
    }

    private static void latitudeAtThePoles() {
        latitude("the north pole", 1500, 90);
        latitude("the south pole", -1500, -90);
        // 1499.07, 1499.77, 1500 are told by 88, 89 and 90.
        latitude("a hundredth less", 1499, 88);
        latitude("a hundredth more", -1499, -88);
        latitude("a hundredth beyond", 1501, 90);
        latitude("a hundredth beyond", -1501, -90);
    }

    // 26.64 is told by 1: the middle is 13.32

    private static void latitudeAtNothing() {
        latitude("none", 0, 0);
        latitude("13 is nearer to 0", 13, 0);
        latitude("14 is nearer to 26.64", 14, 1);
        latitude("-13 is nearer to 0", -13, 0);
        latitude("-14 is nearer to -26.64", -14, -1);
        // 53.27 is told by 2: the middle is 39.95.
        latitude("39 is nearer to 26.64", 39, 1);
        latitude("40 is nearer to 53.27", 40, 2);
        latitude("-39 is nearer to -26.64", -39, -1);
        latitude("-40 is nearer to -53.27", -40, -2);
    }

    private static void latitudeOutOfRange() {
        Check.dueThrow("25: -2001", Check.ILLEGAL, () -> Halls.asked().latitude(-2001));
        Check.dueThrow("25: 2001", Check.ILLEGAL, () -> Halls.asked().latitude(2001));
        Check.dueThrow("25: the least int", Check.ILLEGAL, () -> Halls.asked().latitude(Integer.MIN_VALUE));
    }
}
