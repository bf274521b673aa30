/** Edges of promises 39 and 40: errands in order and in the best order. */
public final class EdgeErrandsTest {
    // kind 1 is barred till the ninth day, which begins with HOUR 216
    private static final String DAYS = "ward 0;act 1 from 0 to 8 fine 1;degree:day;";
    // kind 1 is lawful from hour 10 on, kind 2 till hour 4, kind 3 in hour 7 alone
    private static final String HOURLY = "ward 0;act 1 from 0 to 9 fine 1;act 2 from 5 to 23 fine 1;act 3 from 0 to 6 fine 1;"
        + "act 3 from 8 to 23 fine 1;degree:hour;";

    public static void main(String[] args) {
        numbers();
        oneBehindTheOther();
        inOrder();
        within200();
        errandsBounds();
        bestOrder();
        firstByPlaces();
        onceMore();
        places();
        bestOrderBounds();
        Check.end();
    }

    private static int errands(DegreeLaws x, long... numbers) {
        Check.trayOf(x, 0, numbers);
        return x.errands(0);
    }

    private static void numbers() {
        Check.edge(0, "ERRANDS in a TRAY (1 to 4 numbers: 1000 times KIND, 100 times WARD, and 1 to 24 HOURS)");
        String five = "ward 0;ward 0;ward 0;ward 0;ward 0;act 9 from 0 to 9 fine 1;prevails:hour<3 and ward=4 or hour<2 and ward=0;";
        DegreeLaws x = Check.landOf(five);
        Check.due("1", errands(x, 1), 1);
        Check.due("24", errands(x, 24), 24);
        Check.due("KIND 9 in WARD 4 waits for hour 3", errands(x, 9424), 27);
        Check.due("KIND 9 in WARD 0 waits for hour 2", errands(x, 9001), 3);
        Check.due("KIND 9 in WARD 3", errands(x, 9301), 1);
        Check.due("KIND 8 in WARD 4", errands(x, 8424), 24);
        Check.due("four", errands(x, 24, 24, 24, 24), 96);
        for (int kind = 0; kind < 10; kind++) {
            DegreeLaws y = Check.landOf(five);
            for (int w = 0; w < 5; w++) {
                for (int lasts = 1; lasts <= 24; lasts += 23) {
                    int waits = kind < 9 ? 0 : w == 4 ? 3 : w == 0 ? 2 : 0;
                    Check.due("KIND " + kind + " in WARD " + w, errands(y, 1000 * kind + 100 * w + lasts), waits + lasts);
                }
            }
        }
    }

    private static void oneBehindTheOther() {
        Check.edge(0, "one behind the other, each begun as soon as it is LAWFUL");
        // kind 2 till hour 4, kind 3 in hour 7, kind 1 from hour 10 on: each waits for its hour, and no longer
        Check.due("at once", errands(Check.landOf(HOURLY), 2004), 4);
        Check.due("in hour 7", errands(Check.landOf(HOURLY), 2004, 3003), 10);
        Check.due("in hour 10 at once", errands(Check.landOf(HOURLY), 2004, 3003, 1005), 15);
        Check.due("in hour 11", errands(Check.landOf(HOURLY), 2004, 3004, 1005), 16);
        Check.due("at once again", errands(Check.landOf(HOURLY), 2004, 3004, 1005, 1001), 17);
    }

    private static void inOrder() {
        Check.edge(39, "ERRANDS in order: in how many HOURS all are done; NONE: one can't be.");
        Check.due("one at once", errands(Check.landOf(HOURLY), 2001), 1);
        Check.due("one that waits", errands(Check.landOf(HOURLY), 1001), 11);
        Check.due("the second waits from when the first is done", errands(Check.landOf(HOURLY), 2004, 2001), 5);
        // the first is done in hour 5: kind 2 is lawful again in hour 24
        Check.due("the second waits a day", errands(Check.landOf(HOURLY), 2005, 2001), 25);
        Check.due("in order", errands(Check.landOf(HOURLY), 1001, 3001, 2001), 24 + 24 + 1);
        Check.due("in another order", errands(Check.landOf(HOURLY), 2001, 3001, 1001), 11);
        Check.due("whole: it fits", errands(Check.landOf(HOURLY + "whole;"), 2005), 5);
        Check.due("whole: it never fits", errands(Check.landOf(HOURLY + "whole;"), 2006), -1);
        Check.due("whole: an HOUR less is left", errands(Check.landOf(HOURLY + "whole;"), 4001, 2005), 24 + 5);
        String never = "ward 0;act 1 from 0 to 99 fine 0;";
        Check.due("the first can't be", errands(Check.landOf(never), 1001, 1), -1);
        Check.due("the last can't be", errands(Check.landOf(never), 1, 1, 1, 1001), -1);
        Check.due("from this HOUR on", errands(Check.landOf(HOURLY + "hour 12;"), 1001), 1);
    }

    private static void within200() {
        Check.edge(0, "(within 200 HOURS from when the one ahead is done), from this HOUR on");
        Check.due("in 200", errands(Check.landOf(DAYS + "hour 16;"), 1024), 224);
        Check.due("in 201", errands(Check.landOf(DAYS + "hour 15;"), 1024), -1);
        Check.due("in 200 from then", errands(Check.landOf(DAYS + "hour 15;"), 1, 1024), 225);
        Check.due("in 201 from then", errands(Check.landOf(DAYS + "hour 14;"), 1, 1024), -1);
        Check.due("whole, in 200", errands(Check.landOf(DAYS + "hour 16;whole;"), 1024), 224);
        Check.due("whole, in 201", errands(Check.landOf(DAYS + "hour 15;whole;"), 1024), -1);
        // in ward w kind 1 is lawful from HOUR 216 + 224 w + BASE on: each waits 200, lasts 24
        String late = ";act 1 from 0 to 0 fine 1;degree:day*24+hour-215-224*ward-base;hour 16;";
        for (String measured : new String[] {"begun;", "whole;"}) {
            DegreeLaws x = Check.landOf("ward 0;ward 0;ward 0;ward 0" + late + measured);
            Check.due("each in 200", errands(x, 1024, 1124, 1224, 1324), 896);
            Check.due("best", x.bestOrder(0, 0), 896);
            Check.due("the last one last", x.bestOrder(0, 13), 3);
            DegreeLaws y = Check.landOf("ward 0;ward 0;ward 0;ward 1" + late + measured);
            Check.due("the last in 201", errands(y, 1024, 1124, 1224, 1324), -1);
            Check.due("best", y.bestOrder(0, 0), -1);
            Check.due("without it", errands(y, 1024, 1124, 1224), 672);
        }
    }

    private static DegreeLaws withTray(long... numbers) {
        DegreeLaws x = Check.landOf("ward 10;ward 20 beside 0;act 1 from 10 to 30 fine 5;act 2 from 20 to 99 fine 9;hour 6;");
        x.image(0);
        x.fire(0, 15, 40);
        x.repeal(1);
        Check.trayOf(x, 1, numbers);
        return x;
    }

    // what is no errand: too few and too many numbers, no such KIND, WARD, HOURS, told ones of another sort
    private static final long[][] NONE_SUCH = {{}, {1, 1, 1, 1, 1}, new long[30], {0}, {100}, {1, 25}, {1, 1, 99}, {1, 1, 1, 200},
        {201}, {901}, {10000}, {10001}, {9201}, {-1}, {-999}, {20000}, {30001}, {40000}, {(1L << 32) + 1}, {Long.MIN_VALUE + 1},
        {Long.MAX_VALUE}};

    private static void errandsBounds() {
        Check.edge(39, "IllegalArgumentException: not 1 to 4 numbers, one is none such.");
        for (long[] numbers : NONE_SUCH) {
            Check.refusedOf("errands of " + numbers.length + " numbers", () -> withTray(numbers), Check.IAE, x -> x.errands(1));
        }
        Check.due("1 number", withTray(1).errands(1), 1);
        Check.due("4 numbers", withTray(1, 24, 101, 9124).errands(1), 50);
        for (int t : new int[] {Integer.MIN_VALUE, -1, 4, Integer.MAX_VALUE}) {
            Check.refusedOf("errands(" + t + ")", () -> withTray(1), Check.NSE, x -> x.errands(t));
        }
        for (int t : new int[] {0, 2, 3}) {
            Check.refusedOf("errands(" + t + ")", () -> withTray(1), Check.ISE, x -> x.errands(t));
        }
        Check.refusedOf("errands(0)", DegreeLaws::new, Check.ISE, x -> x.errands(0));
        Check.due("without WARDS none is such", Check.thrownBy(() -> errands(new DegreeLaws(), 1)), Check.IAE);
    }

    private static DegreeLaws best(String land, long... numbers) {
        DegreeLaws x = Check.landOf(land);
        Check.trayOf(x, 0, numbers);
        return x;
    }

    private static void order(DegreeLaws x, int hours, int... places) {
        Check.due("in how many HOURS", x.bestOrder(0, 0), hours);
        for (int k = 0; k < 4; k++) {
            Check.due("place " + k, x.bestOrder(0, 10 + k), k < places.length ? places[k] : -1);
        }
    }

    private static void bestOrder() {
        Check.edge(40, "In the order by which all are done soonest");
        order(best(HOURLY, 1001), 11, 0);
        order(best(HOURLY, 1001, 2001), 11, 1, 0);
        order(best(HOURLY, 1001, 3001, 2001), 11, 2, 1, 0);
        order(best(HOURLY, 1001, 3001, 2001, 1002), 13, 2, 1, 0, 3);
        order(best(HOURLY, 1002, 3001, 1001, 2001), 13, 3, 1, 0, 2);
        // of all 24 orders: kind 3 in hour 7, then kind 1; four hours of kind 4 fit ahead
        order(best(HOURLY, 3001, 4004, 1001, 2001), 11, 1, 3, 0, 2);
        Check.edge(40, "NONE: by none.");
        order(best("ward 0;act 1 from 0 to 99 fine 0;", 1, 1001), -1);
        order(best("ward 0;act 1 from 0 to 99 fine 0;", 1001), -1);
        // kind 1 can begin in 200 or less only behind another one
        order(best(DAYS + "hour 11;", 1001, 5), 206, 1, 0);
        order(best(DAYS + "hour 10;", 1001, 5), -1);
    }

    private static void firstByPlaces() {
        Check.edge(40, "the first by places");
        order(best("ward 0;", 4, 3, 2, 1), 10, 0, 1, 2, 3);
        order(best("ward 0;", 5, 5), 10, 0, 1);
        // kind 2 must begin by hour 4; the others come alike
        order(best(HOURLY, 4001, 5001, 2001, 1001), 11, 0, 1, 2, 3);
        order(best(HOURLY, 4004, 5004, 2001, 1001), 11, 0, 2, 1, 3);
        order(best(HOURLY, 4005, 5004, 2001, 1001), 11, 1, 2, 0, 3);
    }

    private static void onceMore() {
        Check.edge(40, "In the order by which all are done soonest, the first by places");
        DegreeLaws x = Check.landOf("ward 0;act 1 from 0 to 99 fine 0;");
        Check.trayOf(x, 0, 1);
        order(x, 1, 0);
        // what was best of other errands counts no more
        Check.trayOf(x, 0, 5, 5);
        order(x, 10, 0, 1);
        Check.trayOf(x, 0, 1, 1001);
        order(x, -1);
        Check.trayOf(x, 0, 3, 2, 1);
        order(x, 6, 0, 1, 2);
    }

    private static void places() {
        Check.edge(40, "what 0: in how many HOURS, 10 + k: the k-th place (NONE: not so many)");
        for (int many = 1; many <= 4; many++) {
            long[] numbers = new long[many];
            java.util.Arrays.fill(numbers, 2);
            DegreeLaws x = best("ward 0;", numbers);
            Check.due("HOURS", x.bestOrder(0, 0), 2 * many);
            for (int k = 0; k < 4; k++) {
                Check.due("place " + k + " of " + many, x.bestOrder(0, 10 + k), k < many ? k : -1);
            }
        }
    }

    private static void bestOrderBounds() {
        Check.edge(40, "IllegalArgumentException: as errands(), another what (10 to 13).");
        for (long[] numbers : NONE_SUCH) {
            for (int what : new int[] {0, 10, 13}) {
                Check.refusedOf("bestOrder of " + numbers.length + " numbers", () -> withTray(numbers), Check.IAE,
                    x -> x.bestOrder(1, what));
            }
        }
        for (int what : new int[] {Integer.MIN_VALUE, -1, 1, 2, 9, 14, Integer.MAX_VALUE}) {
            Check.refusedOf("bestOrder(1, " + what + ")", () -> withTray(1), Check.IAE, x -> x.bestOrder(1, what));
            Check.refusedOf("bestOrder(0, " + what + ")", () -> withTray(1), Check.ISE, x -> x.bestOrder(0, what));
            Check.refusedOf("bestOrder(4, " + what + ")", () -> withTray(1), Check.NSE, x -> x.bestOrder(4, what));
        }
        for (int t : new int[] {Integer.MIN_VALUE, -1, 4, Integer.MAX_VALUE}) {
            Check.refusedOf("bestOrder(" + t + ", 0)", () -> withTray(1), Check.NSE, x -> x.bestOrder(t, 0));
        }
        Check.refusedOf("bestOrder(3, 0)", () -> withTray(1), Check.ISE, x -> x.bestOrder(3, 0));
    }
}
