/** Promises 39 and 40: errands in order and in the best order. */
public final class ErrandsTest {
    private static final String PLAIN =
        "ward 10;ward 20 beside 0;ward 30 beside 1;act 1 from 10 to 19 fine 5;"
        + "act 1 from 15 to 30 fine 7;act 2 from 20 to 99 fine 9;degree:base+fire-ice+hour;";
    // kind 1 is barred till the ninth day, which begins with HOUR 216
    private static final String DAYS = "ward 0;act 1 from 0 to 8 fine 1;degree:day;";

    public static void main(String[] args) {
        inOrder();
        within200();
        best();
        refusals();
        Check.end();
    }

    private static int errands(DegreeLaws x, long... numbers) {
        Check.trayOf(x, 0, numbers);
        return x.errands(0);
    }

    private static void inOrder() {
        DegreeLaws x = Check.landOf(PLAIN);
        Check.due("one at once", errands(x, 3024), 24);
        Check.due("one that waits", errands(x, 1002), 23);
        Check.due("two", errands(x, 1002, 2001), 25);
        Check.due("the other way", errands(x, 2001, 1002), 23);
        Check.due("one that can't be", errands(x, 1002, 2101), -1);
        // kind 1 in ward 2 from hour 1 on, 3 hours; in ward 1 from 11 on, 4; kind 2 in ward 0 from 24 on, 1
        Check.due("four", errands(x, 1203, 1104, 2001, 5001), 26);
        Check.due("nothing is done", x.count(4) + x.count(7), 0);
        DegreeLaws y = Check.landOf(PLAIN + "whole;");
        Check.due("whole: it fits", errands(y, 2010), 10);
        Check.due("whole: it never fits", errands(y, 2011), -1);
        Check.due("whole: at 24", errands(y, 3001, 2010), 34);
        y.hours(20);
        Check.due("from this hour on", errands(y, 2010), 14);
    }

    private static void within200() {
        Check.due("in 200", errands(Check.landOf(DAYS + "hour 16;"), 1001), 201);
        Check.due("not in 201", errands(Check.landOf(DAYS + "hour 15;"), 1001), -1);
        Check.due("from when the one ahead is done", errands(Check.landOf(DAYS + "hour 11;"), 2005, 1001), 206);
        Check.due("not an hour more", errands(Check.landOf(DAYS + "hour 10;"), 2005, 1001), -1);
        Check.due("four of the longest", errands(Check.landOf("ward 0;whole;"), 24, 24, 24, 24), 96);
        // each waits for its day: begun in 200, 392, 584 and 776 hours
        DegreeLaws far = Check.landOf(DAYS + "act 2 from 0 to 16 fine 1;act 3 from 0 to 24 fine 1;act 4 from 0 to 32 fine 1;"
            + "hour 16;whole;");
        Check.due("as far as it goes", errands(far, 1001, 2001, 3001, 4024), 800);
        Check.due("best", far.bestOrder(0, 0), 800);
        DegreeLaws x = Check.landOf(DAYS + "hour 11;");
        Check.trayOf(x, 0, 1001, 2005);
        Check.due("the first can't wait so long", x.errands(0), -1);
        Check.due("best", x.bestOrder(0, 0), 206);
        Check.due("place 1 first", x.bestOrder(0, 10), 1);
        Check.due("place 0 then", x.bestOrder(0, 11), 0);
    }

    private static void best() {
        DegreeLaws x = Check.landOf(PLAIN);
        Check.trayOf(x, 0, 1002, 2001);
        Check.due("best", x.bestOrder(0, 0), 23);
        Check.due("first", x.bestOrder(0, 10), 1);
        Check.due("second", x.bestOrder(0, 11), 0);
        Check.due("not so many", x.bestOrder(0, 12), -1);
        Check.due("not so many", x.bestOrder(0, 13), -1);
        Check.trayOf(x, 0, 3005, 4004, 5003, 6002);
        Check.due("all alike", x.bestOrder(0, 0), 14);
        for (int k = 0; k < 4; k++) {
            Check.due("by places", x.bestOrder(0, 10 + k), k);
        }
        Check.trayOf(x, 0, 2101, 1002);
        Check.due("by none", x.bestOrder(0, 0), -1);
        Check.due("by none", x.bestOrder(0, 10), -1);
        // kind 2 in ward 0 must begin by hour 9, kind 1 in ward 2 from 1 on, kind 1 in ward 1 from 11 on
        Check.trayOf(x, 0, 1102, 2004, 1203);
        Check.due("best of three", x.bestOrder(0, 0), 13);
        Check.due("first", x.bestOrder(0, 10), 1);
        Check.due("second", x.bestOrder(0, 11), 2);
        Check.due("third", x.bestOrder(0, 12), 0);
        Check.due("of one", errands(x, 9001), 1);
        Check.due("of one", x.bestOrder(0, 10), 0);
    }

    private static void refusals() {
        DegreeLaws x = Check.landOf(PLAIN);
        Check.refused("errands(4)", x, Check.NSE, () -> x.errands(4));
        Check.refused("errands(-1)", x, Check.NSE, () -> x.errands(-1));
        Check.refused("errands(0)", x, Check.ISE, () -> x.errands(0));
        Check.refused("bestOrder(4, 1)", x, Check.NSE, () -> x.bestOrder(4, 1));
        Check.refused("bestOrder(0, 1)", x, Check.ISE, () -> x.bestOrder(0, 1));
        long[][] wrong = {{}, {1001, 1001, 1001, 1001, 1001}, {1001, 1000}, {1025}, {1301}, {-1}, {10001}, {20000}, {40000},
            {4294967297L}};
        for (long[] numbers : wrong) {
            Check.trayOf(x, 0, numbers);
            Check.refused("errands", x, Check.IAE, () -> x.errands(0));
            Check.refused("bestOrder", x, Check.IAE, () -> x.bestOrder(0, 0));
        }
        Check.trayOf(x, 0, 1001);
        for (int what : new int[] {-1, 1, 9, 14, 100}) {
            Check.refused("bestOrder(0, " + what + ")", x, Check.IAE, () -> x.bestOrder(0, what));
        }
    }
}
