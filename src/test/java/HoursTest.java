/** Promises 21 to 28: hours to come. */
public final class HoursTest {
    private static final String PLAIN =
        "ward 10;ward 20 beside 0;ward 30 beside 1;act 1 from 10 to 19 fine 5;"
        + "act 1 from 15 to 30 fine 7;act 2 from 20 to 99 fine 9;degree:base+fire-ice+hour;";
    // kind 1 is barred till the ninth day, which begins with HOUR 216
    private static final String DAYS = "ward 0;act 1 from 0 to 8 fine 1;degree:day;";

    public static void main(String[] args) {
        soonest();
        where();
        cheapest();
        freeHours();
        spells();
        lawless();
        alwaysBarred();
        strictest();
        Check.end();
    }

    private static void soonest() {
        DegreeLaws x = Check.landOf(PLAIN);
        Check.due("soonest(1, 0, 1)", x.soonest(1, 0, 1), 21);
        Check.due("soonest(1, 0, 24)", x.soonest(1, 0, 24), 21);
        Check.due("soonest(2, 0, 24)", x.soonest(2, 0, 24), 0);
        Check.due("soonest(2, 1, 1)", x.soonest(2, 1, 1), -1);
        DegreeLaws y = Check.landOf(PLAIN + "whole;hour 5;");
        Check.due("whole: soonest(1, 0, 3)", y.soonest(1, 0, 3), 16);
        Check.due("whole: soonest(1, 0, 4)", y.soonest(1, 0, 4), -1);
        Check.due("whole: soonest(2, 0, 5)", y.soonest(2, 0, 5), 0);
        Check.due("whole: soonest(2, 0, 6)", y.soonest(2, 0, 6), 19);
        Check.due("in 200", Check.landOf(DAYS + "hour 16;").soonest(1, 0, 1), 200);
        Check.due("not in 201", Check.landOf(DAYS + "hour 15;").soonest(1, 0, 1), -1);
        Check.due("whole in 200", Check.landOf(DAYS + "hour 16;whole;").soonest(1, 0, 24), 200);
        Check.due("whole not in 201", Check.landOf(DAYS + "hour 15;whole;").soonest(1, 0, 24), -1);
        x.fire(0, 60, 99);
        Check.due("fire being laid on", x.soonest(1, 0, 1), 0);
        Check.refused("soonest(10, 3, 1)", x, Check.NSE, () -> x.soonest(10, 3, 1));
        Check.refused("soonest(10, 0, 1)", x, Check.IAE, () -> x.soonest(10, 0, 1));
        Check.refused("soonest(1, 0, 0)", x, Check.IAE, () -> x.soonest(1, 0, 0));
        Check.refused("soonest(1, 0, 25)", x, Check.IAE, () -> x.soonest(1, 0, 25));
    }

    private static void where() {
        DegreeLaws x = Check.landOf(PLAIN);
        Check.due("where(1, 1)", x.where(1, 1), 2);
        Check.due("where(2, 1)", x.where(2, 1), 0);
        Check.due("the first of like ones", x.where(3, 1), 0);
        x.hours(9);
        Check.due("ward 2 alone", x.where(1, 1), 2);
        x.hours(2);
        Check.due("wards 1 and 2", x.where(1, 1), 1);
        DegreeLaws y = Check.landOf("ward 0;ward 0;act 1 from 0 to 9 fine 1;");
        Check.due("in none", y.where(1, 1), -1);
        Check.due("in 200", Check.landOf(DAYS + "hour 16;").where(1, 1), 0);
        Check.due("not in 201", Check.landOf(DAYS + "hour 15;").where(1, 1), -1);
        Check.due("without wards", new DegreeLaws().where(1, 1), -1);
        Check.refused("where(10, 1)", y, Check.IAE, () -> y.where(10, 1));
        Check.refused("where(-1, 1)", y, Check.IAE, () -> y.where(-1, 1));
        Check.refused("where(1, 0)", y, Check.IAE, () -> y.where(1, 0));
        Check.refused("where(1, 25)", y, Check.IAE, () -> y.where(1, 25));
    }

    private static void cheapest() {
        DegreeLaws x = Check.landOf(PLAIN);
        Check.due("cheapest(1, 0, 1)", x.cheapest(1, 0, 1), 21);
        Check.due("all alike", x.cheapest(2, 1, 1), 0);
        DegreeLaws y = Check.landOf(PLAIN + "whole;");
        // hours 21 to 23 are free, and from hour 24 on 5 each
        Check.due("whole: cheapest(1, 0, 4)", y.cheapest(1, 0, 4), 21);
        Check.due("whole: cheapest(1, 0, 24)", y.cheapest(1, 0, 24), 0);
        Check.due("whole: cheapest(2, 0, 11)", y.cheapest(2, 0, 11), 0);
        Check.due("whole: cheapest(1, 1, 23)", y.cheapest(1, 1, 23), 1);
        Check.due("in 200", Check.landOf(DAYS + "hour 16;").cheapest(1, 0, 1), 200);
        Check.due("in 201", Check.landOf(DAYS + "hour 15;").cheapest(1, 0, 1), 0);
        Check.due("whole in 200", Check.landOf(DAYS + "hour 16;whole;").cheapest(1, 0, 24), 200);
        DegreeLaws z = Check.landOf("ward 0;act 1 from 0 to 5 fine 0;degree:hour;");
        Check.due("barred at no fine", z.cheapest(1, 0, 1), 0);
        Check.refused("cheapest(10, 3, 1)", x, Check.NSE, () -> x.cheapest(10, 3, 1));
        Check.refused("cheapest(10, 0, 1)", x, Check.IAE, () -> x.cheapest(10, 0, 1));
        Check.refused("cheapest(1, 0, 0)", x, Check.IAE, () -> x.cheapest(1, 0, 0));
        Check.refused("cheapest(1, 0, 25)", x, Check.IAE, () -> x.cheapest(1, 0, 25));
    }

    private static void freeHours() {
        DegreeLaws x = Check.landOf(PLAIN);
        Check.due("freeHours(1, 0, 21)", x.freeHours(1, 0, 21), 0);
        Check.due("freeHours(1, 0, 22)", x.freeHours(1, 0, 22), 1);
        Check.due("freeHours(1, 0, 200)", x.freeHours(1, 0, 200), 24);
        Check.due("freeHours(2, 0, 1)", x.freeHours(2, 0, 1), 1);
        Check.due("freeHours(5, 0, 200)", x.freeHours(5, 0, 200), 200);
        Check.due("barred at no fine",
            Check.landOf("ward 0;act 1 from 0 to 5 fine 0;degree:hour;").freeHours(1, 0, 24), 18);
        Check.refused("freeHours(10, 3, 1)", x, Check.NSE, () -> x.freeHours(10, 3, 1));
        Check.refused("freeHours(10, 0, 1)", x, Check.IAE, () -> x.freeHours(10, 0, 1));
        Check.refused("freeHours(1, 0, 0)", x, Check.IAE, () -> x.freeHours(1, 0, 0));
        Check.refused("freeHours(1, 0, 201)", x, Check.IAE, () -> x.freeHours(1, 0, 201));
    }

    private static void spells() {
        DegreeLaws x = Check.landOf(PLAIN + "hour 4;");
        // kind 2 in ward 0: free till hour 9, then from 24 to 33 and so on
        Check.due("how long", x.spell(2, 0, 24, 0), 6);
        Check.due("where", x.spell(2, 0, 24, 1), 0);
        Check.due("longer", x.spell(2, 0, 27, 0), 7);
        Check.due("where", x.spell(2, 0, 27, 1), 20);
        Check.due("the first of like ones", x.spell(2, 0, 200, 1), 20);
        Check.due("how long", x.spell(2, 0, 200, 0), 10);
        Check.due("none", x.spell(2, 1, 200, 0), 0);
        Check.due("none", x.spell(2, 1, 200, 1), -1);
        Check.due("all", x.spell(3, 1, 200, 0), 200);
        Check.due("one", x.spell(3, 1, 1, 1), 0);
        Check.refused("spell(10, 3, 0, 2)", x, Check.NSE, () -> x.spell(10, 3, 0, 2));
        Check.refused("spell(10, 0, 1, 0)", x, Check.IAE, () -> x.spell(10, 0, 1, 0));
        Check.refused("spell(1, 0, 0, 0)", x, Check.IAE, () -> x.spell(1, 0, 0, 0));
        Check.refused("spell(1, 0, 201, 0)", x, Check.IAE, () -> x.spell(1, 0, 201, 0));
        Check.refused("spell(1, 0, 1, 2)", x, Check.IAE, () -> x.spell(1, 0, 1, 2));
        Check.refused("spell(1, 0, 1, -1)", x, Check.IAE, () -> x.spell(1, 0, 1, -1));
    }

    private static void lawless() {
        DegreeLaws x = Check.landOf(PLAIN);
        Check.due("lawless(0)", x.lawless(0), -1);
        x.repeal(2);
        Check.due("lawless(0)", x.lawless(0), 21);
        Check.due("lawless(2)", x.lawless(2), 1);
        x.hours(22);
        Check.due("lawless now", x.lawless(0), 0);
        Check.due("in 200", Check.landOf(DAYS + "hour 16;").lawless(0), 200);
        Check.due("not in 201", Check.landOf(DAYS + "hour 15;").lawless(0), -1);
        Check.due("what speaks but doesn't prevail",
            Check.landOf("ward 0;act 1 from 0 to 9 fine 3;prevails:hour<7;").lawless(0), 7);
        Check.refused("lawless(3)", x, Check.NSE, () -> x.lawless(3));
        Check.refused("lawless(-1)", x, Check.NSE, () -> x.lawless(-1));
    }

    private static void alwaysBarred() {
        Check.due("without wards", new DegreeLaws().alwaysBarred(), 0);
        Check.due("kind 2 in ward 1", Check.landOf(PLAIN).alwaysBarred(), 4);
        String hourly = "ward 0;degree:hour;act 9 from 0 to 23 fine 0;act 3 from 0 to 22 fine 1;";
        Check.due("all 24 hours", Check.landOf(hourly).alwaysBarred(), 1 << 9);
        Check.due("by two acts", Check.landOf(hourly + "act 3 from 23 to 23 fine 0;").alwaysBarred(), 1 << 9 | 1 << 3);
        Check.due("half a day each in two wards", Check.landOf("ward 0;ward 0;act 1 from 0 to 9 fine 1;"
            + "prevails:ward=0 and hour<12 or ward=1 and hour>11;").alwaysBarred(), 0);
        Check.due("kind 0 but for the last hour",
            Check.landOf("ward 0;degree:hour;act 0 from 0 to 22 fine 1;").alwaysBarred(), 0);
        Check.due("none beyond the last ward", Check.landOf("ward 50;act 1 from 0 to 9 fine 1;").alwaysBarred(), 0);
        DegreeLaws x = Check.landOf("ward 0;act 1 from 10 to 19 fine 1;");
        x.fire(0, 10, 24);
        Check.due("just a day", x.alwaysBarred(), 2);
        x.fire(0, 10, 23);
        Check.due("an hour less", x.alwaysBarred(), 0);
        DegreeLaws y = Check.landOf("ward 0;act 1 from 0 to 9 fine 1;");
        Check.due("always", y.alwaysBarred(), 2);
        y.fire(0, 10, 1);
        Check.due("but for this hour", y.alwaysBarred(), 0);
        Check.due("kinds in wards of their own", Check.landOf("ward 0;ward 50;act 1 from 0 to 9 fine 1;"
            + "act 0 from 40 to 60 fine 1;").alwaysBarred(), 3);
    }

    private static void strictest() {
        Check.due("without wards", new DegreeLaws().strictest(), 0);
        Check.due("all alike", Check.landOf("ward 1;act 1 from 0 to 9 fine 1;").strictest(), 0);
        Check.due("none at all", Check.landOf("ward 1;").strictest(), 0);
        String day = "ward 0;act 1 from 9 to 9 fine 1;degree:day;";
        Check.due("in 200", Check.landOf(day + "hour 16;").strictest(), 200);
        Check.due("in 201", Check.landOf(day + "hour 15;").strictest(), 0);
        // in hour 5 one act in three wards, in hour 2 two acts in one
        Check.due("of all wards together", Check.landOf("ward 0;ward 0;ward 0;act 1 from 5 to 5 fine 1;"
            + "act 2 from 2 to 2 fine 1;act 3 from 2 to 2 fine 1;degree:hour;prevails:kind=1 or ward=0;").strictest(), 5);
        Check.due("the first of like ones", Check.landOf("ward 0;act 1 from 3 to 9 fine 1;degree:hour;").strictest(), 3);
    }
}
