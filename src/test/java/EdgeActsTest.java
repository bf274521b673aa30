/** Edges of promises 29 to 33: fire that makes a deed lawful, and what acts weigh. */
public final class EdgeActsTest {
    public static void main(String[] args) {
        heat();
        heatWhole();
        heatBounds();
        leastHeat();
        leastHeatBounds();
        cover();
        coverBounds();
        widen();
        heaviest();
        Check.end();
    }

    private static DegreeLaws plain() {
        DegreeLaws x = Check.landOf("ward 10;ward 20 beside 0;act 1 from 10 to 30 fine 5;act 2 from 20 to 99 fine 9;hour 6;");
        x.image(0);
        x.fire(0, 15, 40);
        x.repeal(1);
        x.done(1, 0, 3);
        Check.trayOf(x, 2, 1003, -1, 20010);
        return x;
    }

    private static void heatOf(int base, int from, int to, int want) {
        DegreeLaws x = Check.landOf("ward " + base + ";act 1 from " + from + " to " + to + " fine 0;");
        Check.due("heat at " + base + ", barred from " + from + " to " + to, x.heat(1, 0, 0, 1), want);
        Check.due("leastHeat at " + base + ", barred from " + from + " to " + to, x.leastHeat(1, 0, 1), want == 99 ? -1 : 0);
    }

    private static void heat() {
        Check.edge(29, "TO HEAT: d; 99: by none.");
        heatOf(50, 51, 99, 0);
        heatOf(50, 50, 50, 1);
        heatOf(50, 50, 99, -1);
        heatOf(0, 0, 59, 60);
        heatOf(0, 0, 60, 99);
        heatOf(99, 40, 99, -60);
        heatOf(99, 39, 99, 99);
        heatOf(60, 1, 99, -60);
        heatOf(61, 1, 99, 99);
        heatOf(39, 0, 98, 60);
        heatOf(38, 0, 98, 99);
        heatOf(50, 0, 99, 99);
        Check.edge(0, "the least without its sign, of like ones the one above 0");
        heatOf(50, 41, 59, 10);
        heatOf(50, 41, 60, -10);
        heatOf(50, 40, 59, 10);
        heatOf(50, 1, 99, -50);
        heatOf(49, 0, 98, 50);
        Check.edge(0, "DEGREES d (-60 to 60) by which DEGREE of the WARD were more (kept from 0 to 99) in all its HOURS so that it is LAWFUL");
        // 5 in the first hour, 0 in the second: by 5 less both are 0
        DegreeLaws x = Check.landOf("ward 5;act 1 from 1 to 99 fine 1;whole;degree:base-hour*5;");
        Check.due("kept at 0", x.heat(1, 0, 0, 2), -5);
        DegreeLaws y = Check.landOf("ward 94;act 1 from 0 to 98 fine 1;whole;degree:base+hour*5;");
        Check.due("kept at 99", y.heat(1, 0, 0, 2), 5);
        Check.due("in 999 HOURS", Check.landOf("ward 0;act 1 from 0 to 15 fine 1;degree:hour;").heat(1, 0, 999, 1), 1);
        Check.due("in 998 HOURS", Check.landOf("ward 0;act 1 from 0 to 15 fine 1;degree:hour;").heat(1, 0, 998, 1), 2);
        Check.due("a KIND without ACTS", x.heat(9, 0, 999, 24), 0);
    }

    private static void heatWhole() {
        Check.edge(29, "TO HEAT");
        String text = "ward 0;act 1 from 10 to 20 fine 1;degree:hour;";
        DegreeLaws begun = Check.landOf(text);
        Check.due("begun: its first HOUR alone", begun.heat(1, 0, 9, 24), 0);
        Check.due("begun", begun.heat(1, 0, 10, 24), -1);
        Check.due("begun", begun.heat(1, 0, 15, 24), 6);
        DegreeLaws whole = Check.landOf(text + "whole;");
        Check.due("whole: one HOUR", whole.heat(1, 0, 9, 1), 0);
        Check.due("whole: two HOURS", whole.heat(1, 0, 9, 2), -1);
        // hours 0 to 23: all below 10 by 14 less, all above 20 by 21 more
        Check.due("whole: a day", whole.heat(1, 0, 0, 24), -14);
        // hours 999 to 1022 are 15 to 23 and 0 to 14
        Check.due("whole: a day in 999", whole.heat(1, 0, 999, 24), -14);
        // barred up to 50 in hour 7 alone, by the law that prevails
        DegreeLaws law = Check.landOf("ward 5;act 1 from 0 to 50 fine 3;prevails:hour=7;whole;");
        int[][] deeds = {{7, 1, 46}, {17, 1, 0}, {5, 2, 0}, {5, 3, 46}, {8, 3, 0}, {8, 24, 46}, {991, 1, 46}, {990, 1, 0}};
        for (int[] one : deeds) {
            Check.due("from " + one[0] + " on for " + one[1], law.heat(1, 0, one[0], one[1]), one[2]);
        }
        DegreeLaws hot = Check.landOf("ward 0;act 1 from 10 to 70 fine 1;degree:hour*4;whole;");
        // by 60 less 92 is 32
        Check.due("whole: by none", hot.heat(1, 0, 0, 24), 99);
    }

    private static void heatBounds() {
        Check.edge(29, "TO HEAT: d");
        for (int v : new int[] {Integer.MIN_VALUE, -1, 10, Integer.MAX_VALUE}) {
            Check.refusedOf("heat(" + v + ", 0, 0, 1)", EdgeActsTest::plain, Check.IAE, x -> x.heat(v, 0, 0, 1));
            Check.refusedOf("heat(" + v + ", 2, 0, 1)", EdgeActsTest::plain, Check.NSE, x -> x.heat(v, 2, 0, 1));
        }
        for (int v : new int[] {Integer.MIN_VALUE, -1, 1000, Integer.MAX_VALUE}) {
            Check.refusedOf("heat(0, 0, " + v + ", 1)", EdgeActsTest::plain, Check.IAE, x -> x.heat(0, 0, v, 1));
            Check.refusedOf("heat(0, -1, " + v + ", 1)", EdgeActsTest::plain, Check.NSE, x -> x.heat(0, -1, v, 1));
        }
        for (int v : new int[] {Integer.MIN_VALUE, -1, 0, 25, Integer.MAX_VALUE}) {
            Check.refusedOf("heat(0, 0, 0, " + v + ")", EdgeActsTest::plain, Check.IAE, x -> x.heat(0, 0, 0, v));
            Check.refusedOf("heat(0, 2, 0, " + v + ")", EdgeActsTest::plain, Check.NSE, x -> x.heat(0, 2, 0, v));
        }
        Check.due("the last of each", Check.thrownBy(() -> plain().heat(9, 1, 999, 24)), 0);
    }

    private static void leastHeat() {
        Check.edge(30, "The n (0 to 200) by which TO HEAT is least without its sign, the first; NONE: by none.");
        Check.due("none is needed: the first", Check.landOf("ward 0;").leastHeat(1, 0, 24), 0);
        Check.due("all alike: the first", Check.landOf("ward 0;act 1 from 0 to 9 fine 1;").leastHeat(1, 0, 1), 0);
        Check.due("by none", Check.landOf("ward 0;act 1 from 0 to 99 fine 0;").leastHeat(1, 0, 1), -1);
        // day 9 begins with HOUR 216: then 0 is needed, ahead of it 1
        String ninth = "ward 0;act 1 from 0 to 8 fine 1;degree:day;";
        Check.due("in 200", Check.landOf(ninth + "hour 16;").leastHeat(1, 0, 1), 200);
        // day 8 begins with HOUR 192
        Check.due("in 201", Check.landOf(ninth + "hour 15;").leastHeat(1, 0, 1), 177);
        // at most 60 in 200 hours alone
        String far = "ward 0;act 1 from 0 to 68 fine 1;degree:day;";
        Check.due("by 60 in 200", Check.landOf(far + "hour 16;").leastHeat(1, 0, 1), 200);
        Check.due("by none in 201", Check.landOf(far + "hour 15;").leastHeat(1, 0, 1), -1);
        String cold = "ward 0;act 1 from 10 to 99 fine 1;degree:78-day;";
        // 69 on the ninth day: 60 less is 9
        Check.due("by 60 less in 200", Check.landOf(cold + "hour 16;").leastHeat(1, 0, 1), 200);
        Check.due("by none in 201", Check.landOf(cold + "hour 15;").leastHeat(1, 0, 1), -1);
        DegreeLaws signs = Check.landOf("ward 50;act 1 from 40 to 60 fine 1;");
        signs.fire(0, 6, 3);
        // 5 more now; in three hours 11 either way
        Check.due("more", signs.leastHeat(1, 0, 1), 0);
        signs.ice(0, 13, 2);
        // 43 for two hours: 4 less; 56 then: 5 more
        Check.due("less", signs.leastHeat(1, 0, 1), 0);
        signs.ice(0, 10, 2);
        // 46 for two hours: 7 less; 56 then: 5 more
        Check.due("more in two", signs.leastHeat(1, 0, 1), 2);
        signs.ice(0, 12, 2);
        // 44 for two hours: 5 less; 56 then: 5 more
        Check.due("like ones: the first", signs.leastHeat(1, 0, 1), 0);
        DegreeLaws edges = Check.landOf("ward 0;act 1 from 0 to 0 fine 1;act 1 from 50 to 99 fine 1;degree:99-hour*99;");
        // 99 now, 50 needed; 0 from hour 1 on, 1 needed
        Check.due("in 1", edges.leastHeat(1, 0, 1), 1);
        DegreeLaws whole = Check.landOf("ward 0;act 1 from 10 to 40 fine 1;degree:20+hour;whole;");
        // four hours: 40 to 43 by 1 more from hour 20 on
        Check.due("whole", whole.leastHeat(1, 0, 4), 20);
        Check.due("whole: a day", whole.leastHeat(1, 0, 24), 0);
        Check.due("whole, in 200", Check.landOf(far + "hour 16;whole;").leastHeat(1, 0, 24), 200);
        hourAndDegree();
    }

    /** Each hour and degree by itself: 99 in one hour is not 0 in the next one. */
    private static void hourAndDegree() {
        DegreeLaws x = Check.landOf("ward 0;act 1 from 0 to 99 fine 1;degree:99-hour*99;prevails:not hour=5;");
        Check.due("by the hour alone", x.leastHeat(1, 0, 1), 5);
        DegreeLaws y = Check.landOf("ward 0;act 1 from 0 to 98 fine 1;degree:99-hour*99;");
        Check.due("99 is free now", y.leastHeat(1, 0, 1), 0);
        DegreeLaws z = Check.landOf("ward 0;act 1 from 0 to 98 fine 1;degree:99*hour;hour 23;");
        Check.due("99 is free now, 0 isn't then", z.leastHeat(1, 0, 1), 0);
        DegreeLaws w = Check.landOf("ward 0;act 1 from 1 to 99 fine 1;degree:(1-hour)*99;");
        // 99 in hour 0, 0 from hour 1 on
        Check.due("0 is free then", w.leastHeat(1, 0, 1), 1);
    }

    private static void leastHeatBounds() {
        Check.edge(30, "by which TO HEAT is least");
        for (int v : new int[] {Integer.MIN_VALUE, -1, 10, Integer.MAX_VALUE}) {
            Check.refusedOf("leastHeat(" + v + ", 0, 1)", EdgeActsTest::plain, Check.IAE, x -> x.leastHeat(v, 0, 1));
            Check.refusedOf("leastHeat(" + v + ", 2, 1)", EdgeActsTest::plain, Check.NSE, x -> x.leastHeat(v, 2, 1));
        }
        for (int v : new int[] {Integer.MIN_VALUE, -1, 0, 25, Integer.MAX_VALUE}) {
            Check.refusedOf("leastHeat(0, 0, " + v + ")", EdgeActsTest::plain, Check.IAE, x -> x.leastHeat(0, 0, v));
            Check.refusedOf("leastHeat(0, -1, " + v + ")", EdgeActsTest::plain, Check.NSE, x -> x.leastHeat(0, -1, v));
        }
        Check.due("the last of each", Check.thrownBy(() -> plain().leastHeat(9, 1, 24)), 0);
    }

    private static void covered(DegreeLaws x, int kind, int many, int which) {
        Check.due("how many", x.cover(kind, 0, 0), many);
        Check.due("which", x.cover(kind, 0, 1), which);
    }

    private static void cover() {
        Check.edge(31, "COVER, what 0: how many, 1: which, as bits; NONE: there is none.");
        covered(Check.landOf("ward 0;"), 0, -1, -1);
        covered(Check.landOf("ward 0;act 9 from 0 to 0 fine 0;"), 9, 1, 1);
        covered(Check.landOf("ward 0;act 9 from 0 to 0 fine 0;"), 0, -1, -1);
        String hourly = "ward 0;degree:hour;";
        covered(Check.landOf(hourly + "act 1 from 0 to 22 fine 1;"), 1, -1, -1);
        covered(Check.landOf(hourly + "act 1 from 1 to 23 fine 1;"), 1, -1, -1);
        covered(Check.landOf(hourly + "act 1 from 0 to 23 fine 1;"), 1, 1, 1);
        covered(Check.landOf("ward 0;act 1 from 0 to 0 fine 1;degree:day;"), 1, 1, 1);
        covered(Check.landOf("ward 0;act 1 from 0 to 0 fine 1;degree:day;hour 1;"), 1, -1, -1);
        StringBuilder eight = new StringBuilder(hourly);
        for (int a = 0; a < 8; a++) {
            eight.append("act 4 from ").append(3 * a).append(" to ").append(3 * a + 2).append(" fine 0;");
        }
        covered(Check.landOf(eight.toString()), 4, 8, 255);
        Check.edge(0, "the fewest ACTS of it that, by themselves (all others of the KIND repealed), BAR it in each of the next 24 HOURS "
            + "(this one first), of like ones the least set as bits");
        // acts 0 and 3, or 1 and 2; or 4, 5 and 6: the fewest, the least set
        String two = "act 1 from 0 to 11 fine 1;act 1 from 0 to 12 fine 1;act 1 from 13 to 23 fine 1;act 1 from 12 to 23 fine 1;";
        covered(Check.landOf(hourly + two), 1, 2, 2 | 4);
        covered(Check.landOf(hourly + two.replace("act 1 from 13", "act 2 from 13")), 1, 2, 1 | 8);
        // one act beats two of lower numbers
        covered(Check.landOf(hourly + two + "act 1 from 0 to 23 fine 1;"), 1, 1, 16);
        // by themselves: alone the law holds for none of them, for two of them it does
        covered(Check.landOf("ward 0;act 1 from 0 to 0 fine 1;act 1 from 0 to 0 fine 1;act 1 from 0 to 0 fine 1;prevails:many=2;"), 1, 2, 3);
        covered(Check.landOf("ward 0;act 1 from 0 to 0 fine 1;act 1 from 0 to 0 fine 1;act 1 from 0 to 0 fine 1;prevails:many=1;"), 1, 1, 1);
        // not in force together with the others, but by itself
        covered(Check.landOf("ward 0;act 1 from 0 to 0 fine 1;act 1 from 0 to 0 fine 1;prevails:many=1 and act=1;"), 1, 1, 2);
        // by the hour of then: each speaks just when it prevails
        covered(Check.landOf(hourly + "act 1 from 0 to 11 fine 1;act 1 from 12 to 23 fine 1;"
            + "prevails:hour<12 and act=0 or hour>11 and act=1;"), 1, 2, 3);
        DegreeLaws x = Check.landOf(hourly + two + "act 1 from 0 to 23 fine 1;");
        x.repeal(4);
        covered(x, 1, 2, 6);
        x.repeal(1);
        covered(x, 1, 2, 9);
        x.repeal(0);
        covered(x, 1, -1, -1);
    }

    private static void coverBounds() {
        Check.edge(31, "IllegalArgumentException: the KIND, another what.");
        for (int v : new int[] {Integer.MIN_VALUE, -1, 10, Integer.MAX_VALUE}) {
            Check.refusedOf("cover(" + v + ", 0, 0)", EdgeActsTest::plain, Check.IAE, x -> x.cover(v, 0, 0));
            Check.refusedOf("cover(" + v + ", 2, 0)", EdgeActsTest::plain, Check.NSE, x -> x.cover(v, 2, 0));
        }
        for (int v : new int[] {Integer.MIN_VALUE, -1, 2, Integer.MAX_VALUE}) {
            Check.refusedOf("cover(0, 0, " + v + ")", EdgeActsTest::plain, Check.IAE, x -> x.cover(0, 0, v));
            Check.refusedOf("cover(0, -1, " + v + ")", EdgeActsTest::plain, Check.NSE, x -> x.cover(0, -1, v));
        }
    }

    private static void widened(String land, int want) {
        Check.due(land, Check.landOf(land).widen(0, 0), want);
    }

    private static void widen() {
        Check.edge(32, "By how many DEGREES in all an ACT's first one were to be less, its second one more so that it SPEAKS in a WARD in "
            + "each of the next 24 HOURS (this one first), were it not repealed.");
        widened("ward 5;act 1 from 5 to 5 fine 1;", 0);
        widened("ward 4;act 1 from 5 to 5 fine 1;", 1);
        widened("ward 6;act 1 from 5 to 5 fine 1;", 1);
        widened("ward 0;act 1 from 99 to 99 fine 1;", 99);
        widened("ward 99;act 1 from 0 to 0 fine 1;", 99);
        // degrees 0 to 23
        widened("ward 5;act 1 from 0 to 23 fine 1;degree:hour;", 0);
        widened("ward 5;act 1 from 1 to 23 fine 1;degree:hour;", 1);
        widened("ward 5;act 1 from 0 to 22 fine 1;degree:hour;", 1);
        widened("ward 5;act 1 from 3 to 20 fine 1;degree:hour;", 6);
        widened("ward 5;act 1 from 30 to 40 fine 1;degree:hour;", 30);
        // the 24th hour, and not the 25th
        widened("ward 5;act 1 from 0 to 0 fine 1;degree:day*7;hour 1;", 7);
        widened("ward 5;act 1 from 0 to 0 fine 1;degree:day*7;", 0);
        StringBuilder above = new StringBuilder("ward 50;");
        StringBuilder below = new StringBuilder("ward 50;");
        for (int a = 0; a < 8; a++) {
            above.append("act 1 from ").append(60 + a).append(" to ").append(70 + 3 * a).append(" fine 1;");
            below.append("act 1 from ").append(a).append(" to ").append(40 - 3 * a).append(" fine 1;");
        }
        for (int a = 0; a < 8; a++) {
            Check.due("ACT " + a + " above", Check.landOf(above.toString()).widen(a, 0), 10 + a);
            Check.due("ACT " + a + " below", Check.landOf(below.toString()).widen(a, 0), 10 + 3 * a);
        }
        DegreeLaws x = Check.landOf("ward 5;act 1 from 0 to 0 fine 1;prevails:0=1;");
        Check.due("SPEAKS, not IN FORCE", x.widen(0, 0), 5);
        x.repeal(0);
        Check.due("were it not repealed", x.widen(0, 0), 5);
        x.amend(0, 7, 9);
        Check.due("as amended", x.widen(0, 0), 2);
        x.fire(0, 60, 1);
        Check.due("this HOUR counts", x.widen(0, 0), 2 + 56);
        Check.edge(32, "an ACT's first one");
        for (int v : new int[] {Integer.MIN_VALUE, -1, 2, 8, Integer.MAX_VALUE}) {
            Check.refusedOf("widen(" + v + ", 0)", EdgeActsTest::plain, Check.NSE, y -> y.widen(v, 0));
            Check.refusedOf("widen(0, " + v + ")", EdgeActsTest::plain, Check.NSE, y -> y.widen(0, v));
        }
        Check.due("the last of each", Check.thrownBy(() -> plain().widen(1, 1)), 0);
    }

    private static void heaviest() {
        Check.edge(33, "The ACT (not repealed) by whose repeal alone its KIND is BARRED in a WARD in fewer HOURS of the next 24 (this one "
            + "first), by most, the first; NONE: by none.");
        Check.due("without ACTS", Check.landOf("ward 0;").heaviest(0), -1);
        Check.due("by one HOUR, the first", Check.landOf("ward 0;act 1 from 0 to 0 fine 0;degree:hour;").heaviest(0), 0);
        Check.due("by one HOUR, the last", Check.landOf("ward 0;act 1 from 23 to 23 fine 0;degree:hour;").heaviest(0), 0);
        Check.due("the 25th HOUR", Check.landOf("ward 0;act 1 from 1 to 1 fine 0;degree:day;").heaviest(0), -1);
        Check.due("of like ones the first", Check.landOf("ward 0;act 1 from 50 to 50 fine 1;act 2 from 0 to 11 fine 1;"
            + "act 3 from 12 to 23 fine 1;degree:hour;").heaviest(0), 1);
        Check.due("by most", Check.landOf("ward 0;act 1 from 0 to 11 fine 1;act 2 from 0 to 12 fine 1;degree:hour;").heaviest(0), 1);
        // act 0 bars 20 hours, 18 of which act 1 bars too; act 2 bars 3 alone
        Check.due("by its repeal alone", Check.landOf("ward 0;act 1 from 0 to 19 fine 1;act 1 from 2 to 19 fine 1;"
            + "act 2 from 21 to 23 fine 1;degree:hour;").heaviest(0), 2);
        Check.due("the eighth", Check.landOf("ward 0;" + "act 1 from 50 to 50 fine 1;".repeat(7) + "act 1 from 0 to 0 fine 1;").heaviest(0), 7);
        DegreeLaws x = Check.landOf("ward 0;act 1 from 0 to 0 fine 1;act 2 from 0 to 0 fine 1;act 3 from 5 to 5 fine 1;");
        x.repeal(0);
        Check.due("not repealed", x.heaviest(0), 1);
        x.repeal(1);
        Check.due("by none", x.heaviest(0), -1);
        // by the hour of then: 12 hours by act 0, 8 by act 1
        Check.due("by the hour of then", Check.landOf("ward 0;act 1 from 0 to 11 fine 1;act 2 from 12 to 19 fine 1;degree:hour;"
            + "prevails:hour<12 or act=1;").heaviest(0), 0);
        DegreeLaws y = Check.landOf("ward 0;act 1 from 0 to 0 fine 1;act 1 from 0 to 0 fine 1;prevails:many=2;");
        Check.due("both prevail together alone", y.heaviest(0), 0);
        DegreeLaws z = Check.landOf("ward 0;act 1 from 0 to 0 fine 1;act 1 from 0 to 0 fine 1;prevails:many=1;");
        Check.due("more by its repeal isn't fewer", z.heaviest(0), -1);
        Check.edge(33, "BARRED in a WARD");
        for (int w : new int[] {Integer.MIN_VALUE, -1, 2, Integer.MAX_VALUE}) {
            Check.refusedOf("heaviest(" + w + ")", EdgeActsTest::plain, Check.NSE, v -> v.heaviest(w));
        }
    }
}
