/** Promises 24 and 25: the plane that turns, and the latitude at which it does. */
public final class PlaneTest {
    public static void main(String[] args) {
        turnsByHand();
        turnsByDoubles();
        latitudesByHand();
        latitudesBySearch();
        wrongInputs();
        Check.end();
    }

    private static void turned(int latitude, int minutes, float want) {
        Check.dueFloat("turned(" + latitude + ", " + minutes + ")", Halls.asked().turned(latitude, minutes), want);
    }

    private static void turnsByHand() {
        turned(90, 60, 15f);
        turned(-90, 60, -15f);
        turned(90, 1, 0.25f);
        turned(90, 100000, 25000f);
        turned(30, 60, 7.5f);
        turned(-30, 60, -7.5f);
        turned(30, 1441, 180.125f);
        turned(0, 60, 0f);
        turned(0, 0, 0f);
        // 0f less 0f is 0f, not -0f.
        turned(-45, 0, 0f);
        turned(45, 60, (float) 10.588235855102539);
        turned(-45, 1441, (float) -254.29412841796875);
        turned(60, 1441, (float) 311.56756591796875);
        turned(-1, 60, (float) -0.26636242866516113);
        turned(89, 1441, (float) 360.19439697265625);
    }

    /** Each operation of floats, done in doubles and rounded by itself. */
    private static float byDoubles(int latitude, int minutes) {
        int a = Math.abs(latitude);
        double m = a * (180 - a);
        double s = (float) ((float) (4.0 * m) / (double) (float) (40500.0 - m));
        float degrees = (float) ((double) (float) (s * minutes) * 0.25);
        return latitude < 0 ? (float) (0.0 - degrees) : degrees;
    }

    private static void turnsByDoubles() {
        for (int latitude = -90; latitude <= 90; latitude++) {
            for (int minutes = 0; minutes <= 100000; minutes += 1 + minutes / 7) {
                turned(latitude, minutes, byDoubles(latitude, minutes));
            }
            turned(latitude, 100000, byDoubles(latitude, 100000));
        }
    }

    private static void latitude(int hundredths, int want) {
        Check.due("latitude(" + hundredths + ")", Halls.asked().latitude(hundredths), want);
    }

    private static void latitudesByHand() {
        latitude(0, 0);
        latitude(750, 30);
        latitude(-750, -30);
        latitude(1500, 90);
        latitude(-1500, -90);
        latitude(2000, 90);
        latitude(-2000, -90);
        latitude(1059, 45);
        // 26.6 is 13.6 from 13 and 12.6 from 14; 0 is 13 and 14 from them.
        latitude(13, 0);
        latitude(14, 1);
        latitude(-13, 0);
        latitude(-14, -1);
    }

    private static void latitudesBySearch() {
        for (int hundredths = -2000; hundredths <= 2000; hundredths++) {
            int want = -90;
            float least = Float.MAX_VALUE;
            for (int latitude = 90; latitude >= -90; latitude--) {
                float miss = Math.abs(byDoubles(latitude, 60) * 100f - (float) hundredths);
                if (miss <= least) {
                    least = miss;
                    want = latitude;
                }
            }
            latitude(hundredths, want);
        }
    }

    private static void wrongInputs() {
        Check.dueRange("turned's latitude", -90, 90, Check.ILLEGAL, latitude -> Halls.asked().turned(latitude, 1));
        Check.dueRange("turned's minutes", 0, 100000, Check.ILLEGAL, minutes -> Halls.asked().turned(1, minutes));
        Check.dueRange("latitude's hundredths", -2000, 2000, Check.ILLEGAL, h -> Halls.asked().latitude(h));
    }
}
