/** Promises 34 to 38: ways. */
public final class WaysTest {
    private static final String PLAIN =
        "ward 10;ward 20 beside 0;ward 30 beside 1;act 1 from 10 to 19 fine 5;"
        + "act 1 from 15 to 30 fine 7;act 2 from 20 to 99 fine 9;degree:base+fire-ice+hour;";
    // wards 0 and 3 with 1 and 2 between them; kind 1 is barred where it is 50 and more
    private static final String DIAMOND = "ward 0;ward 0 beside 0;ward 0 beside 0;ward 0 beside 1 2;act 1 from 50 to 99 fine 4;";

    public static void main(String[] args) {
        freeWay();
        within60();
        freeAt();
        fineless();
        wayFine();
        freeWays();
        guard();
        Check.end();
    }

    private static void freeWay() {
        DegreeLaws x = Check.landOf(PLAIN + "hour 21;");
        Check.due("freeWay(1, 0, 2)", x.freeWay(1, 0, 2), 2);
        Check.due("freeWay(1, 0, 0)", x.freeWay(1, 0, 0), 0);
        Check.due("freeWay(1, 1, 2)", x.freeWay(1, 1, 2), 1);
        x.hours(1);
        // in HOUR 24 the kind is barred everywhere
        Check.due("the last hour counts too", x.freeWay(1, 0, 2), -1);
        Check.due("just in time", x.freeWay(1, 0, 1), 1);
        DegreeLaws y = Check.landOf(PLAIN);
        Check.due("this hour counts too", y.freeWay(1, 0, 0), -1);
        Check.due("not from there on", y.freeWay(2, 1, 0), -1);
        DegreeLaws z = Check.landOf(DIAMOND + "ward 0;");
        Check.due("freeWay(1, 0, 3)", z.freeWay(1, 0, 3), 2);
        Check.due("no way there", z.freeWay(1, 0, 4), -1);
        z.fire(1, 60, 9);
        z.fire(2, 60, 3);
        Check.due("stays till hour 2, goes on", z.freeWay(1, 0, 3), 4);
        z.fire(0, 60, 1);
        Check.due("fined now", z.freeWay(1, 0, 3), -1);
        z.fire(0, 0, 1);
        z.hours(1);
        z.fire(0, 0, 1);
        z.hours(1);
        Check.due("an hour later", z.freeWay(1, 0, 3), 2);
        Check.refused("freeWay(10, 5, 0)", z, Check.NSE, () -> z.freeWay(10, 5, 0));
        Check.refused("freeWay(10, 0, -1)", z, Check.NSE, () -> z.freeWay(10, 0, -1));
        Check.refused("freeWay(10, 0, 0)", z, Check.IAE, () -> z.freeWay(10, 0, 0));
        Check.refused("freeWay(-1, 0, 0)", z, Check.IAE, () -> z.freeWay(-1, 0, 0));
    }

    private static void within60() {
        DegreeLaws x = Check.landOf(DIAMOND);
        x.fire(1, 60, 60);
        Check.due("just 60", x.freeWay(1, 0, 1), 60);
        Check.due("stays all the time", x.freeAt(1, 0, 1, 59), 0);
        Check.due("and is there", x.freeAt(1, 0, 1, 60), 1);
        x.fire(1, 60, 61);
        Check.due("61 are too many", x.freeWay(1, 0, 1), -1);
        Check.due("none", x.freeAt(1, 0, 1, 0), -1);
    }

    private static void freeAt() {
        DegreeLaws x = Check.landOf(DIAMOND);
        Check.due("begins", x.freeAt(1, 0, 3, 0), 0);
        Check.due("by the first", x.freeAt(1, 0, 3, 1), 1);
        Check.due("ends", x.freeAt(1, 0, 3, 2), 3);
        Check.due("not so many", x.freeAt(1, 0, 3, 3), -1);
        Check.due("not so many", x.freeAt(1, 0, 3, Integer.MAX_VALUE), -1);
        Check.due("back by the first", x.freeAt(1, 3, 0, 1), 1);
        x.fire(1, 60, 2);
        Check.due("by the second", x.freeAt(1, 0, 3, 1), 2);
        x.fire(2, 60, 3);
        Check.due("stays first", x.freeAt(1, 0, 3, 1), 0);
        Check.due("then by the first", x.freeAt(1, 0, 3, 2), 1);
        Check.due("ends", x.freeAt(1, 0, 3, 3), 3);
        x.fire(3, 60, 5);
        // of ways of 5 hours the first by wards stays as long as it can
        Check.due("freeWay", x.freeWay(1, 0, 3), 5);
        int[] want = {0, 0, 0, 0, 1, 3};
        for (int k = 0; k < want.length; k++) {
            Check.due("freeAt " + k, x.freeAt(1, 0, 3, k), want[k]);
        }
        DegreeLaws four = Check.landOf("ward 0;ward 0 beside 0;ward 0;ward 0;ward 0 beside 0;act 1 from 50 to 99 fine 4;");
        four.fire(0, 60, 99);
        four.ice(0, 60, 1);
        Check.due("away by ward 1 or 4", four.freeWay(1, 0, 4), 1);
        Check.due("there at once", four.freeAt(1, 0, 4, 1), 4);
        Check.refused("freeAt(10, 4, 0, -1)", x, Check.NSE, () -> x.freeAt(10, 4, 0, -1));
        Check.refused("freeAt(1, 0, 4, 0)", x, Check.NSE, () -> x.freeAt(1, 0, 4, 0));
        Check.refused("freeAt(10, 0, 0, 0)", x, Check.IAE, () -> x.freeAt(10, 0, 0, 0));
        Check.refused("freeAt(1, 0, 0, -1)", x, Check.IAE, () -> x.freeAt(1, 0, 0, -1));
    }

    /** Barred, but nothing is fined: the way is free all the same. */
    private static void fineless() {
        DegreeLaws x = Check.landOf("ward 0;ward 0 beside 0;act 1 from 0 to 9 fine 0;");
        Check.due("freeWay", x.freeWay(1, 0, 1), 1);
        Check.due("freeAt", x.freeAt(1, 0, 1, 1), 1);
        Check.due("freeWays", x.freeWays(1, 0, 1, 1), 1);
        Check.due("wayFine", x.wayFine(1, 0, 1, 1), 0);
    }

    private static void wayFine() {
        DegreeLaws x = Check.landOf(PLAIN + "hour 21;");
        Check.due("wayFine(1, 0, 0, 3)", x.wayFine(1, 0, 0, 3), 5);
        Check.due("wayFine(1, 0, 2, 3)", x.wayFine(1, 0, 2, 3), 7);
        Check.due("wayFine(2, 0, 2, 2)", x.wayFine(2, 0, 2, 2), 27);
        Check.due("nowhere in 0 hours", x.wayFine(1, 0, 1, 0), -1);
        Check.due("not so soon", x.wayFine(1, 0, 2, 1), -1);
        Check.due("this hour alone", x.wayFine(2, 1, 1, 0), 9);
        DegreeLaws y = Check.landOf("ward 0;ward 9 beside 0;ward 5 beside 1;act 1 from 0 to 0 fine 3;act 1 from 5 to 9 fine 8;"
            + "act 1 from 9 to 9 fine 80;");
        Check.due("stays where it is cheap", y.wayFine(1, 0, 2, 60), 59 * 3 + 88 + 8);
        Check.due("there and back", y.wayFine(1, 2, 2, 60), 2 * 8 + 2 * 88 + 57 * 3);
        Check.due("staying is less", y.wayFine(1, 2, 2, 20), 21 * 8);
        Check.due("fines of all acts", y.wayFine(1, 1, 1, 0), 88);
        DegreeLaws z = Check.landOf("ward 0;ward 0;act 1 from 0 to 9 fine 1;whole;");
        Check.due("no way", z.wayFine(1, 0, 1, 60), -1);
        Check.due("each as a deed of one hour", z.wayFine(1, 0, 0, 2), 3);
        Check.refused("wayFine(10, 2, 0, 61)", z, Check.NSE, () -> z.wayFine(10, 2, 0, 61));
        Check.refused("wayFine(1, 0, 2, 1)", z, Check.NSE, () -> z.wayFine(1, 0, 2, 1));
        Check.refused("wayFine(10, 0, 0, 1)", z, Check.IAE, () -> z.wayFine(10, 0, 0, 1));
        Check.refused("wayFine(1, 0, 0, 61)", z, Check.IAE, () -> z.wayFine(1, 0, 0, 61));
        Check.refused("wayFine(1, 0, 0, -1)", z, Check.IAE, () -> z.wayFine(1, 0, 0, -1));
    }

    private static void freeWays() {
        DegreeLaws x = Check.landOf("ward 0;ward 0 beside 0;ward 0 beside 0 1;ward 0 beside 0 1 2;ward 0 beside 0 1 2 3;");
        Check.due("5 to the 19th", x.freeWays(1, 0, 3, 20), 19073486328125L);
        Check.due("none yet", x.freeWays(1, 0, 3, 0), 0);
        Check.due("there", x.freeWays(1, 3, 3, 0), 1);
        DegreeLaws y = Check.landOf(DIAMOND);
        Check.due("two of two hours", y.freeWays(1, 0, 3, 2), 2);
        // 0 stays, 1 or 2 stays, 3 stays
        Check.due("six of three hours", y.freeWays(1, 0, 3, 3), 6);
        y.fire(2, 60, 2);
        Check.due("one by 1", y.freeWays(1, 0, 3, 2), 1);
        Check.due("four of three hours", y.freeWays(1, 0, 3, 3), 4);
        y.fire(0, 60, 1);
        Check.due("fined now", y.freeWays(1, 0, 3, 3), 0);
        Check.refused("freeWays(10, 4, 0, 21)", y, Check.NSE, () -> y.freeWays(10, 4, 0, 21));
        Check.refused("freeWays(1, 0, 4, 2)", y, Check.NSE, () -> y.freeWays(1, 0, 4, 2));
        Check.refused("freeWays(10, 0, 0, 2)", y, Check.IAE, () -> y.freeWays(10, 0, 0, 2));
        Check.refused("freeWays(1, 0, 0, 21)", y, Check.IAE, () -> y.freeWays(1, 0, 0, 21));
        Check.refused("freeWays(1, 0, 0, -1)", y, Check.IAE, () -> y.freeWays(1, 0, 0, -1));
    }

    private static void guard() {
        DegreeLaws x = Check.landOf(DIAMOND);
        Check.due("another way as soon", x.guard(1, 0, 3), -1);
        x.fire(2, 60, 4);
        Check.due("by 2 it comes later", x.guard(1, 0, 3), 1);
        Check.due("beside one another", x.guard(1, 0, 1), -1);
        x.fire(0, 60, 1);
        Check.due("there is none", x.guard(1, 0, 3), -1);
        DegreeLaws line = Check.landOf("ward 0;ward 0 beside 0;ward 0 beside 1;ward 0 beside 2;");
        Check.due("the first of two that bar it", line.guard(1, 0, 3), 1);
        Check.due("back too", line.guard(1, 3, 0), 1);
        DegreeLaws far = Check.landOf("ward 0;ward 0 beside 0;ward 0 beside 1;ward 0 beside 0 2;ward 0 beside 2;"
            + "act 1 from 50 to 99 fine 4;");
        Check.due("not at all is latest", far.guard(1, 0, 4), 2);
        far.fire(3, 60, 9);
        Check.due("not at all is latest", far.guard(1, 0, 4), 2);
        Check.due("late is later", far.guard(1, 0, 2), 1);
        Check.due("a way round may be as soon", far.guard(1, 4, 1), 2);
        Check.due("ward 0 too", Check.landOf("ward 0;ward 0 beside 0;ward 0 beside 0;").guard(1, 1, 2), 0);
        DegreeLaws late = Check.landOf("ward 0;ward 0 beside 0;ward 0 beside 0;ward 0 beside 1 2;ward 0 beside 3;"
            + "act 1 from 50 to 99 fine 4;");
        late.fire(2, 60, 58);
        // without 1 it comes in 60 hours, without 3 not at all
        Check.due("freeWay", late.freeWay(1, 0, 4), 3);
        Check.due("not at all is later than 60", late.guard(1, 0, 4), 3);
        Check.due("to ward 4", late.freeAt(1, 0, 4, 3), 4);
        Check.due("from ward 4", late.freeAt(1, 4, 0, 1), 3);
        Check.due("stays in ward 4", late.freeAt(1, 4, 4, 0), 4);
        Check.refused("guard(10, 5, 5)", far, Check.NSE, () -> far.guard(10, 5, 5));
        Check.refused("guard(1, 0, 5)", far, Check.NSE, () -> far.guard(1, 0, 5));
        Check.refused("guard(10, 0, 1)", far, Check.IAE, () -> far.guard(10, 0, 1));
        Check.refused("guard(1, 2, 2)", far, Check.IAE, () -> far.guard(1, 2, 2));
    }
}
