/** Promises 29 to 33: fire that makes a deed lawful, and what acts weigh. */
public final class ActsTest {
    private static final String PLAIN =
        "ward 10;ward 20 beside 0;ward 30 beside 1;act 1 from 10 to 19 fine 5;"
        + "act 1 from 15 to 30 fine 7;act 2 from 20 to 99 fine 9;degree:base+fire-ice+hour;";

    public static void main(String[] args) {
        heat();
        leastHeat();
        cover();
        widen();
        heaviest();
        Check.end();
    }

    private static void heatOf(int base, int from, int to, int want) {
        DegreeLaws x = Check.landOf("ward " + base + ";act 1 from " + from + " to " + to + " fine 0;");
        Check.due("heat at " + base + " of " + from + " to " + to, x.heat(1, 0, 0, 1), want);
    }

    private static void heat() {
        heatOf(50, 45, 55, 6);
        heatOf(50, 45, 56, -6);
        heatOf(50, 46, 55, -5);
        heatOf(50, 45, 54, 5);
        heatOf(50, 51, 55, 0);
        heatOf(97, 90, 99, -8);
        heatOf(3, 0, 10, 8);
        heatOf(0, 0, 59, 60);
        heatOf(0, 0, 60, 99);
        heatOf(99, 40, 99, -60);
        heatOf(99, 39, 99, 99);
        heatOf(50, 0, 99, 99);
        DegreeLaws x = Check.landOf(PLAIN);
        Check.due("begun: the first hour", x.heat(1, 0, 0, 24), -1);
        Check.due("heat(1, 0, 5, 1)", x.heat(1, 0, 5, 1), -6);
        Check.due("heat(1, 0, 16, 1)", x.heat(1, 0, 16, 1), 5);
        Check.due("heat(1, 0, 999, 1)", x.heat(1, 0, 999, 1), 6);
        DegreeLaws y = Check.landOf(PLAIN + "whole;");
        Check.due("whole: all its hours", y.heat(1, 0, 0, 3), -3);
        Check.due("whole: 10 to 33", y.heat(1, 0, 0, 24), 21);
        DegreeLaws z = Check.landOf("ward 3;act 1 from 0 to 2 fine 1;act 1 from 4 to 9 fine 1;degree:base+hour;whole;");
        // hours of 3 and 4: both more than 9 by 7
        Check.due("whole: kept at 0 too", z.heat(1, 0, 0, 2), 7);
        DegreeLaws k = Check.landOf("ward 99;act 1 from 97 to 98 fine 1;degree:base-hour*2;whole;");
        // 99, 97: both 99 by 2
        Check.due("whole: kept at 99", k.heat(1, 0, 0, 2), 2);
        Check.refused("heat(10, 3, 0, 1)", x, Check.NSE, () -> x.heat(10, 3, 0, 1));
        Check.refused("heat(10, 0, 0, 1)", x, Check.IAE, () -> x.heat(10, 0, 0, 1));
        Check.refused("heat(1, 0, -1, 1)", x, Check.IAE, () -> x.heat(1, 0, -1, 1));
        Check.refused("heat(1, 0, 1000, 1)", x, Check.IAE, () -> x.heat(1, 0, 1000, 1));
        Check.refused("heat(1, 0, 0, 25)", x, Check.IAE, () -> x.heat(1, 0, 0, 25));
    }

    private static void leastHeat() {
        DegreeLaws x = Check.landOf(PLAIN);
        Check.due("none needed", x.leastHeat(1, 0, 1), 21);
        Check.due("the first of like ones", x.leastHeat(2, 1, 1), 0);
        DegreeLaws y = Check.landOf("ward 0;act 1 from 0 to 40 fine 1;degree:hour;");
        Check.due("18 in hour 23", y.leastHeat(1, 0, 1), 23);
        DegreeLaws z = Check.landOf("ward 0;act 1 from 10 to 40 fine 1;degree:20+hour;");
        // hour 0: 11 less; hour 23 (43): none
        Check.due("none in hour 21", z.leastHeat(1, 0, 1), 21);
        DegreeLaws c = Check.landOf("ward 0;act 1 from 10 to 99 fine 1;degree:50-hour;");
        Check.due("18 less in hour 23", c.leastHeat(1, 0, 1), 23);
        DegreeLaws both = Check.landOf("ward 0;act 1 from 30 to 60 fine 1;degree:40+hour*2-day*day*day;hour 24;");
        Check.due("by more or by less", both.leastHeat(1, 0, 1), 11);
        DegreeLaws w = Check.landOf("ward 0;act 1 from 10 to 40 fine 1;degree:20+hour;whole;");
        // four hours: 41, 42, 43 and then 20; all four more by 1 from hour 20 on
        Check.due("whole: more by 1", w.leastHeat(1, 0, 4), 20);
        Check.due("by none", Check.landOf("ward 5;act 1 from 0 to 99 fine 0;").leastHeat(1, 0, 1), -1);
        Check.due("by 60", Check.landOf("ward 0;act 1 from 0 to 59 fine 0;").leastHeat(1, 0, 1), 0);
        Check.due("not by 61", Check.landOf("ward 0;act 1 from 0 to 60 fine 0;").leastHeat(1, 0, 1), -1);
        Check.due("by 60 less", Check.landOf("ward 99;act 1 from 40 to 99 fine 0;").leastHeat(1, 0, 1), 0);
        DegreeLaws sooner = Check.landOf("ward 42;act 1 from 40 to 60 fine 1;");
        sooner.fire(0, 16, 2);
        Check.due("3 more now, 3 less in two hours", sooner.leastHeat(1, 0, 1), 0);
        DegreeLaws less = Check.landOf("ward 58;act 1 from 40 to 60 fine 1;");
        less.ice(0, 16, 2);
        Check.due("3 less now, 3 more in two hours", less.leastHeat(1, 0, 1), 0);
        DegreeLaws late = Check.landOf("ward 0;act 1 from 10 to 99 fine 1;degree:90-day*9;hour 16;");
        Check.due("none needed in 200", late.leastHeat(1, 0, 1), 200);
        DegreeLaws later = Check.landOf("ward 0;act 1 from 9 to 99 fine 1;degree:90-day*9;hour 16;");
        Check.due("1 less in 200", later.leastHeat(1, 0, 1), 200);
        DegreeLaws cold = Check.landOf("ward 0;act 1 from 98 to 99 fine 1;degree:98-hour*98;");
        Check.due("cold in an hour", cold.leastHeat(1, 0, 1), 1);
        String days = "ward 0;act 1 from 0 to 99 fine 1;prevails:act=0;act 1 from 0 to 0 fine 0;";
        Check.due("by none", Check.landOf(days).leastHeat(1, 0, 24), -1);
        String day = "ward 0;act 1 from 0 to 60 fine 1;degree:day;";
        // the ninth day begins in 200 hours: 52 more then
        Check.due("in 200", Check.landOf(day + "hour 16;").leastHeat(1, 0, 1), 200);
        Check.due("in 201", Check.landOf(day + "hour 15;").leastHeat(1, 0, 1), 177);
        Check.refused("leastHeat(10, 3, 1)", x, Check.NSE, () -> x.leastHeat(10, 3, 1));
        Check.refused("leastHeat(10, 0, 1)", x, Check.IAE, () -> x.leastHeat(10, 0, 1));
        Check.refused("leastHeat(1, 0, 0)", x, Check.IAE, () -> x.leastHeat(1, 0, 0));
        Check.refused("leastHeat(1, 0, 25)", x, Check.IAE, () -> x.leastHeat(1, 0, 25));
    }

    private static void covered(DegreeLaws x, int kind, int many, int which) {
        Check.due("cover how many", x.cover(kind, 0, 0), many);
        Check.due("cover which", x.cover(kind, 0, 1), which);
    }

    private static void cover() {
        // degrees 0, 4 .. 92
        String four = "ward 0;degree:hour*4;";
        covered(Check.landOf(four + "act 1 from 0 to 49 fine 0;act 1 from 50 to 99 fine 1;"), 1, 2, 3);
        covered(Check.landOf(four + "act 1 from 0 to 49 fine 1;act 1 from 50 to 91 fine 1;"), 1, -1, -1);
        covered(Check.landOf(four + "act 1 from 0 to 49 fine 1;act 2 from 50 to 99 fine 1;"), 1, -1, -1);
        covered(Check.landOf(four), 1, -1, -1);
        String all = four + "act 1 from 0 to 49 fine 1;act 1 from 50 to 99 fine 1;act 1 from 0 to 92 fine 1;"
            + "act 1 from 0 to 99 fine 1;act 2 from 0 to 99 fine 1;";
        DegreeLaws x = Check.landOf(all);
        covered(x, 1, 1, 4);
        covered(x, 2, 1, 16);
        x.repeal(2);
        covered(x, 1, 1, 8);
        x.repeal(3);
        covered(x, 1, 2, 3);
        x.repeal(0);
        covered(x, 1, -1, -1);
        DegreeLaws like = Check.landOf(four + "act 1 from 60 to 99 fine 1;act 1 from 0 to 70 fine 1;"
            + "act 1 from 50 to 99 fine 1;act 1 from 0 to 59 fine 1;");
        covered(like, 1, 2, 3);
        // by itself each speaks alone, and then none prevails
        covered(Check.landOf("ward 0;act 1 from 0 to 9 fine 1;act 1 from 0 to 9 fine 2;act 1 from 0 to 9 fine 3;"
            + "prevails:many=2 and fine>1;"), 1, 2, 3);
        StringBuilder eight = new StringBuilder("ward 0;degree:hour;");
        for (int a = 0; a < 8; a++) {
            eight.append("act 1 from ").append(3 * a).append(" to ").append(3 * a + 2).append(" fine 1;");
        }
        covered(Check.landOf(eight.toString()), 1, 8, 255);
        DegreeLaws now = Check.landOf("ward 0;act 1 from 0 to 9 fine 1;act 1 from 50 to 50 fine 1;");
        covered(now, 1, 1, 1);
        now.fire(0, 40, 1);
        covered(now, 1, -1, -1);
        now.fire(0, 50, 1);
        covered(now, 1, 2, 3);
        DegreeLaws day = Check.landOf("ward 0;act 1 from 0 to 0 fine 1;degree:day;");
        covered(day, 1, 1, 1);
        day.hours(1);
        covered(day, 1, -1, -1);
        Check.refused("cover(10, 3, 2)", x, Check.NSE, () -> x.cover(10, 3, 2));
        Check.refused("cover(10, 0, 0)", x, Check.IAE, () -> x.cover(10, 0, 0));
        Check.refused("cover(1, 0, 2)", x, Check.IAE, () -> x.cover(1, 0, 2));
        Check.refused("cover(1, 0, -1)", x, Check.IAE, () -> x.cover(1, 0, -1));
    }

    private static void widen() {
        DegreeLaws x = Check.landOf(PLAIN);
        Check.due("second more", x.widen(0, 0), 14);
        Check.due("both", x.widen(1, 0), 5 + 3);
        Check.due("first less", x.widen(2, 0), 10);
        Check.due("none", x.widen(2, 1), 0);
        Check.due("all less", x.widen(0, 2), 34);
        x.repeal(0);
        Check.due("were it not repealed", x.widen(0, 0), 14);
        x.fire(0, 50, 1);
        Check.due("fire counts", x.widen(0, 0), 41);
        x.hours(1);
        Check.due("no more", x.widen(0, 0), 14);
        DegreeLaws day = Check.landOf("ward 0;act 1 from 0 to 0 fine 1;degree:day*50;");
        Check.due("24 hours", day.widen(0, 0), 0);
        day.hours(1);
        Check.due("the next day", day.widen(0, 0), 50);
        Check.refused("widen(3, 0)", x, Check.NSE, () -> x.widen(3, 0));
        Check.refused("widen(0, 3)", x, Check.NSE, () -> x.widen(0, 3));
        Check.refused("widen(-1, 0)", x, Check.NSE, () -> x.widen(-1, 0));
        Check.refused("widen(0, -1)", x, Check.NSE, () -> x.widen(0, -1));
    }

    private static void heaviest() {
        DegreeLaws x = Check.landOf(PLAIN);
        Check.due("14 hours by act 2", x.heaviest(0), 2);
        Check.due("24 hours by act 2", x.heaviest(1), 2);
        x.repeal(2);
        Check.due("11 by act 1, 5 by act 0", x.heaviest(0), 1);
        x.repeal(1);
        Check.due("act 0", x.heaviest(0), 0);
        x.repeal(0);
        Check.due("none is left", x.heaviest(0), -1);
        DegreeLaws y = Check.landOf("ward 5;act 1 from 0 to 9 fine 1;act 1 from 0 to 9 fine 1;");
        Check.due("each is barred by the other", y.heaviest(0), -1);
        DegreeLaws z = Check.landOf("ward 5;act 1 from 0 to 9 fine 1;act 2 from 0 to 9 fine 1;");
        Check.due("the first of like ones", z.heaviest(0), 0);
        DegreeLaws m = Check.landOf("ward 5;act 1 from 0 to 9 fine 1;act 1 from 0 to 9 fine 2;prevails:many=1 or fine=1;");
        Check.due("the other prevails then", m.heaviest(0), -1);
        DegreeLaws now = Check.landOf("ward 0;act 1 from 0 to 9 fine 1;act 2 from 50 to 59 fine 1;");
        now.fire(0, 50, 12);
        Check.due("12 hours each", now.heaviest(0), 0);
        now.fire(0, 50, 13);
        Check.due("this hour counts", now.heaviest(0), 1);
        DegreeLaws one = Check.landOf("ward 0;act 1 from 50 to 59 fine 1;");
        one.fire(0, 50, 1);
        Check.due("by this hour alone", one.heaviest(0), 0);
        DegreeLaws day = Check.landOf("ward 0;act 1 from 1 to 1 fine 1;degree:day;");
        Check.due("not in the 25th hour", day.heaviest(0), -1);
        day.hours(1);
        Check.due("by the last hour alone", day.heaviest(0), 0);
        Check.refused("heaviest(3)", x, Check.NSE, () -> x.heaviest(3));
        Check.refused("heaviest(-1)", x, Check.NSE, () -> x.heaviest(-1));
    }
}
