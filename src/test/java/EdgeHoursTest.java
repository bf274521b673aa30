/** Edges of promises 21 to 28: hours to come. */
public final class EdgeHoursTest {
    // kind 1 is barred, at 1 an hour, till the ninth day, which begins with HOUR 216
    private static final String DAYS = "ward 0;act 1 from 0 to 8 fine 1;degree:day;";
    // kind 1 is barred in hours 0 to 5 and 12 of each day, at 4 and 1
    private static final String HOURLY = "ward 0;act 1 from 0 to 5 fine 4;act 1 from 12 to 12 fine 1;degree:hour;";

    public static void main(String[] args) {
        soonest();
        where();
        cheapest();
        freeHours();
        spell();
        lawless();
        alwaysBarred();
        strictest();
        Check.end();
    }

    private static DegreeLaws plain() {
        DegreeLaws x = Check.landOf("ward 10;ward 20 beside 0;act 1 from 10 to 30 fine 5;act 2 from 20 to 99 fine 9;hour 6;");
        x.image(0);
        x.fire(0, 15, 40);
        x.repeal(1);
        x.done(1, 0, 3);
        Check.trayOf(x, 2, 1003, -1, 20010);
        return x;
    }

    private static void soonest() {
        Check.edge(0, "SOONEST: the least n (0 to 200) so that a DEED begun in n HOURS is LAWFUL.");
        // free are hours 6 to 11 and 13 to 23
        for (int hour = 0; hour < 24; hour++) {
            DegreeLaws x = Check.landOf(HOURLY + "hour " + hour + ";");
            int want = hour < 6 ? 6 - hour : hour == 12 ? 1 : 0;
            Check.due("from hour " + hour + " on", x.soonest(1, 0, 1), want);
            Check.due("LAWFUL then", x.lawful(1, 0, want, 1) ? 1 : 0, 1);
        }
        Check.edge(21, "SOONEST; NONE: not by then.");
        Check.due("in 0", Check.landOf(HOURLY + "hour 6;").soonest(1, 0, 1), 0);
        Check.due("in 1", Check.landOf(HOURLY + "hour 5;").soonest(1, 0, 1), 1);
        Check.due("in 200", Check.landOf(DAYS + "hour 16;").soonest(1, 0, 1), 200);
        Check.due("in 201", Check.landOf(DAYS + "hour 15;").soonest(1, 0, 1), -1);
        Check.due("in 199", Check.landOf(DAYS + "hour 17;").soonest(1, 0, 1), 199);
        Check.due("begun, lasts 24", Check.landOf(HOURLY + "hour 5;").soonest(1, 0, 24), 1);
        DegreeLaws whole = Check.landOf(HOURLY + "whole;");
        Check.due("whole, lasts 6", whole.soonest(1, 0, 6), 6);
        Check.due("whole, lasts 7", whole.soonest(1, 0, 7), 13);
        Check.due("whole, lasts 11", whole.soonest(1, 0, 11), 13);
        Check.due("whole, lasts 12", whole.soonest(1, 0, 12), -1);
        // begun in 200 it lasts till HOUR 239
        Check.due("whole, the last HOUR it lasts", Check.landOf(DAYS + "hour 16;whole;").soonest(1, 0, 24), 200);
        Check.due("whole, not in 201", Check.landOf(DAYS + "hour 15;whole;").soonest(1, 0, 24), -1);
        String once = "ward 0;act 1 from 0 to 8 fine 1;act 1 from 10 to 99 fine 1;degree:day;whole;";
        Check.due("whole, just a day", Check.landOf(once + "hour 16;").soonest(1, 0, 24), 200);
        // lawful in hour 7 alone, by the law that prevails
        String seven = "ward 5;act 1 from 0 to 99 fine 3;prevails:not hour=7;";
        Check.due("by the hour of then", Check.landOf(seven).soonest(1, 0, 1), 7);
        Check.due("by the hour of then", Check.landOf(seven + "hour 8;").soonest(1, 0, 24), 23);
        Check.due("a KIND without ACTS", whole.soonest(0, 0, 24), 0);
        Check.due("always", Check.landOf("ward 0;act 9 from 0 to 99 fine 0;").soonest(9, 0, 1), -1);
        bounds(21);
    }

    /** The bounds that soonest and cheapest have in common. */
    private static void bounds(int promise) {
        Check.edge(promise, promise == 21 ? "SOONEST" : "The n (0 to 200)");
        for (int v : new int[] {Integer.MIN_VALUE, -1, 10, Integer.MAX_VALUE}) {
            Check.refusedOf("KIND " + v, EdgeHoursTest::plain, Check.IAE, x -> call(promise, x, v, 0, 1));
            Check.refusedOf("KIND " + v + ", WARD 2", EdgeHoursTest::plain, Check.NSE, x -> call(promise, x, v, 2, 1));
        }
        for (int v : new int[] {Integer.MIN_VALUE, -1, 0, 25, Integer.MAX_VALUE}) {
            Check.refusedOf("lasts " + v, EdgeHoursTest::plain, Check.IAE, x -> call(promise, x, 0, 0, v));
            Check.refusedOf("lasts " + v + ", WARD -1", EdgeHoursTest::plain, Check.NSE, x -> call(promise, x, 0, -1, v));
        }
        for (int w : new int[] {Integer.MIN_VALUE, -1, 2, Integer.MAX_VALUE}) {
            Check.refusedOf("WARD " + w, EdgeHoursTest::plain, Check.NSE, x -> call(promise, x, 0, w, 1));
        }
        Check.due("the last of each", Check.thrownBy(() -> call(promise, plain(), 9, 1, 24)), 0);
        Check.due("the first of each", Check.thrownBy(() -> call(promise, plain(), 0, 0, 1)), 0);
    }

    private static int call(int promise, DegreeLaws x, int kind, int w, int lasts) {
        return promise == 21 ? x.soonest(kind, w, lasts) : x.cheapest(kind, w, lasts);
    }

    private static void where() {
        Check.edge(22, "The WARD where it is LAWFUL SOONEST, the first; NONE: in none.");
        String five = "ward 1;ward 2;ward 3;ward 4;ward 5;act 1 from 0 to 50 fine 1;degree:base+hour*ward+";
        // in ward w it is w + 1 and w more each hour: above 50 in WARD 3 from hour 16 on, in WARD 4 from 12 on
        Check.due("the last WARD", Check.landOf(five + "0;").where(1, 1), 4);
        Check.due("all alike: the first", Check.landOf(five + "60;").where(1, 1), 0);
        Check.due("in none", Check.landOf(five + "0*1;degree:5;").where(1, 1), -1);
        Check.due("without WARDS", new DegreeLaws().where(1, 1), -1);
        Check.due("without WARDS", Check.landOf("act 1 from 0 to 99 fine 1;").where(2, 24), -1);
        DegreeLaws x = Check.landOf("ward 0;ward 0;ward 0;act 1 from 0 to 9 fine 1;");
        x.ice(0, 60, 99);
        x.fire(2, 10, 1);
        Check.due("now in WARD 2", x.where(1, 1), 2);
        x.fire(1, 10, 1);
        Check.due("of WARDS 1 and 2 the first", x.where(1, 1), 1);
        Check.due("in 200", Check.landOf("ward 0;" + DAYS + "hour 16;").where(1, 24), 0);
        Check.due("in 201", Check.landOf("ward 0;" + DAYS + "hour 15;").where(1, 24), -1);
        Check.edge(22, "The WARD where it is LAWFUL SOONEST");
        for (int v : new int[] {Integer.MIN_VALUE, -1, 10, Integer.MAX_VALUE}) {
            Check.refusedOf("where(" + v + ", 1)", EdgeHoursTest::plain, Check.IAE, y -> y.where(v, 1));
            Check.refusedOf("where(" + v + ", 1) without WARDS", DegreeLaws::new, Check.IAE, y -> y.where(v, 1));
        }
        for (int v : new int[] {Integer.MIN_VALUE, -1, 0, 25, Integer.MAX_VALUE}) {
            Check.refusedOf("where(0, " + v + ")", EdgeHoursTest::plain, Check.IAE, y -> y.where(0, v));
            Check.refusedOf("where(0, " + v + ") without WARDS", DegreeLaws::new, Check.IAE, y -> y.where(0, v));
        }
        Check.due("the last of each", Check.thrownBy(() -> plain().where(9, 24)), 0);
    }

    private static void cheapest() {
        Check.edge(23, "The n (0 to 200) by which it is FINED least, the first.");
        Check.due("all alike: the first", Check.landOf("ward 0;act 1 from 0 to 9 fine 3;").cheapest(1, 0, 24), 0);
        Check.due("nothing is FINED", Check.landOf("ward 0;").cheapest(1, 0, 24), 0);
        Check.due("in 1", Check.landOf("ward 0;act 1 from 0 to 0 fine 1;degree:hour;").cheapest(1, 0, 1), 1);
        Check.due("in 2", Check.landOf("ward 0;act 1 from 0 to 1 fine 1;degree:hour;").cheapest(1, 0, 1), 2);
        Check.due("whole, in 1", Check.landOf("ward 0;act 1 from 0 to 0 fine 1;degree:hour;whole;").cheapest(1, 0, 3), 1);
        Check.due("by the hour of then", Check.landOf("ward 5;act 1 from 0 to 99 fine 3;prevails:not hour=7;").cheapest(1, 0, 1), 7);
        Check.due("in 200", Check.landOf(DAYS + "hour 16;").cheapest(1, 0, 1), 200);
        Check.due("in 201", Check.landOf(DAYS + "hour 15;").cheapest(1, 0, 1), 0);
        Check.due("1 is less than 4", Check.landOf("ward 0;act 1 from 0 to 99 fine 1;act 1 from 0 to 11 fine 3;"
            + "act 1 from 13 to 99 fine 3;degree:hour;").cheapest(1, 0, 1), 12);
        DegreeLaws whole = Check.landOf(HOURLY + "whole;");
        Check.due("whole, lasts 6", whole.cheapest(1, 0, 6), 6);
        // 12 hours: 1 by hours 1 to 12 and on from 6 to 17, and 4 by hours 13 to 24
        Check.due("whole, lasts 12", whole.cheapest(1, 0, 12), 6);
        Check.due("whole, lasts 24", whole.cheapest(1, 0, 24), 0);
        Check.due("whole, in 200", Check.landOf(DAYS + "hour 16;whole;").cheapest(1, 0, 24), 200);
        // begun in 200 it lasts into the ninth day by one hour: 23 instead of 24
        Check.due("whole, by its last HOUR", Check.landOf("ward 0;act 1 from 0 to 9 fine 1;degree:day;hour 17;whole;")
            .cheapest(1, 0, 24), 200);
        Check.due("whole, not by the HOUR behind", Check.landOf("ward 0;act 1 from 0 to 9 fine 1;degree:day;hour 16;whole;")
            .cheapest(1, 0, 24), 0);
        Check.due("BARRED at FINE 0 is FINED least", Check.landOf("ward 0;act 1 from 0 to 11 fine 0;degree:hour;").cheapest(1, 0, 1), 0);
        bounds(23);
    }

    private static void freeHours() {
        Check.edge(24, "How many of the next n HOURS (1 to 200, this one first) a KIND isn't BARRED in.");
        DegreeLaws x = Check.landOf(HOURLY);
        Check.due("this one", x.freeHours(1, 0, 1), 0);
        Check.due("6", x.freeHours(1, 0, 6), 0);
        Check.due("7", x.freeHours(1, 0, 7), 1);
        Check.due("24", x.freeHours(1, 0, 24), 17);
        // 8 days and 8 hours more
        Check.due("200", x.freeHours(1, 0, 200), 8 * 17 + 2);
        Check.due("this one first", Check.landOf(HOURLY + "hour 12;").freeHours(1, 0, 1), 0);
        Check.due("this one first", Check.landOf(HOURLY + "hour 11;").freeHours(1, 0, 1), 1);
        Check.due("a KIND without ACTS", x.freeHours(9, 0, 200), 200);
        Check.due("BARRED at FINE 0", Check.landOf("ward 0;act 0 from 0 to 99 fine 0;").freeHours(0, 0, 200), 0);
        Check.due("begun or whole", Check.landOf(HOURLY + "whole;").freeHours(1, 0, 24), 17);
        Check.due("the 200th HOUR", Check.landOf(DAYS + "hour 17;").freeHours(1, 0, 200), 1);
        Check.due("not the 201st", Check.landOf(DAYS + "hour 16;").freeHours(1, 0, 200), 0);
        Check.edge(24, "IllegalArgumentException: the KIND, n.");
        for (int v : new int[] {Integer.MIN_VALUE, -1, 10, Integer.MAX_VALUE}) {
            Check.refusedOf("freeHours(" + v + ", 0, 1)", EdgeHoursTest::plain, Check.IAE, y -> y.freeHours(v, 0, 1));
            Check.refusedOf("freeHours(" + v + ", 2, 1)", EdgeHoursTest::plain, Check.NSE, y -> y.freeHours(v, 2, 1));
        }
        for (int v : new int[] {Integer.MIN_VALUE, -1, 0, 201, Integer.MAX_VALUE}) {
            Check.refusedOf("freeHours(0, 0, " + v + ")", EdgeHoursTest::plain, Check.IAE, y -> y.freeHours(0, 0, v));
            Check.refusedOf("freeHours(0, -1, " + v + ")", EdgeHoursTest::plain, Check.NSE, y -> y.freeHours(0, -1, v));
        }
    }

    private static void spell() {
        Check.edge(25, "The longest row of such HOURS, what 0: how long, 1: in how many HOURS it begins, the first (NONE: there is none).");
        // free are hours 6 to 11 and 13 to 23
        int[][] want = {{1, 0, -1}, {6, 0, -1}, {7, 1, 6}, {12, 6, 6}, {13, 6, 6}, {19, 6, 6}, {20, 7, 13}, {24, 11, 13}, {200, 11, 13}};
        for (int[] one : want) {
            DegreeLaws x = Check.landOf(HOURLY);
            Check.due("how long of " + one[0], x.spell(1, 0, one[0], 0), one[1]);
            Check.due("where of " + one[0], x.spell(1, 0, one[0], 1), one[2]);
        }
        DegreeLaws begun = Check.landOf(HOURLY + "hour 20;");
        Check.due("4 at first", begun.spell(1, 0, 10, 0), 4);
        Check.due("from this one on", begun.spell(1, 0, 10, 1), 0);
        Check.due("all 200", begun.spell(5, 0, 200, 0), 200);
        Check.due("all 200", begun.spell(5, 0, 200, 1), 0);
        Check.due("just this one", begun.spell(1, 0, 1, 0), 1);
        Check.due("the 200th HOUR", Check.landOf(DAYS + "hour 17;").spell(1, 0, 200, 1), 199);
        Check.due("the 200th HOUR", Check.landOf(DAYS + "hour 17;").spell(1, 0, 200, 0), 1);
        Check.due("not the 201st", Check.landOf(DAYS + "hour 16;").spell(1, 0, 200, 1), -1);
        Check.due("not the 201st", Check.landOf(DAYS + "hour 16;").spell(1, 0, 200, 0), 0);
        Check.edge(25, "IllegalArgumentException: the KIND, n, another what.");
        for (int v : new int[] {Integer.MIN_VALUE, -1, 10, Integer.MAX_VALUE}) {
            Check.refusedOf("spell(" + v + ", 0, 1, 0)", EdgeHoursTest::plain, Check.IAE, y -> y.spell(v, 0, 1, 0));
            Check.refusedOf("spell(" + v + ", 2, 1, 0)", EdgeHoursTest::plain, Check.NSE, y -> y.spell(v, 2, 1, 0));
        }
        for (int v : new int[] {Integer.MIN_VALUE, -1, 0, 201, Integer.MAX_VALUE}) {
            Check.refusedOf("spell(0, 0, " + v + ", 0)", EdgeHoursTest::plain, Check.IAE, y -> y.spell(0, 0, v, 0));
            Check.refusedOf("spell(0, -1, " + v + ", 0)", EdgeHoursTest::plain, Check.NSE, y -> y.spell(0, -1, v, 0));
        }
        for (int v : new int[] {Integer.MIN_VALUE, -1, 2, Integer.MAX_VALUE}) {
            Check.refusedOf("spell(0, 0, 1, " + v + ")", EdgeHoursTest::plain, Check.IAE, y -> y.spell(0, 0, 1, v));
            Check.refusedOf("spell(0, 2, 1, " + v + ")", EdgeHoursTest::plain, Check.NSE, y -> y.spell(0, 2, 1, v));
        }
    }

    private static void lawless() {
        Check.edge(26, "In how many HOURS (0 to 200) no ACT at all is IN FORCE in a WARD first; NONE: not by then.");
        Check.due("without ACTS", Check.landOf("ward 0;").lawless(0), 0);
        Check.due("in 0", Check.landOf(HOURLY + "hour 6;").lawless(0), 0);
        Check.due("in 1", Check.landOf(HOURLY + "hour 12;").lawless(0), 1);
        Check.due("in 200", Check.landOf(DAYS + "hour 16;").lawless(0), 200);
        Check.due("in 201", Check.landOf(DAYS + "hour 15;").lawless(0), -1);
        Check.due("never", Check.landOf("ward 0;act 0 from 0 to 99 fine 0;").lawless(0), -1);
        // kind 1 in hours 0 to 5 and 12, kind 2 in hours 3 to 14
        Check.due("no ACT of any KIND", Check.landOf(HOURLY + "act 2 from 3 to 14 fine 1;").lawless(0), 15);
        DegreeLaws x = Check.landOf(HOURLY);
        x.repeal(0);
        Check.due("repealed ones aren't IN FORCE", x.lawless(0), 0);
        Check.due("in the last WARD", Check.landOf("ward 0;ward 50;act 1 from 0 to 9 fine 1;").lawless(1), 0);
        Check.edge(26, "in a WARD");
        for (int w : new int[] {Integer.MIN_VALUE, -1, 2, Integer.MAX_VALUE}) {
            Check.refusedOf("lawless(" + w + ")", EdgeHoursTest::plain, Check.NSE, y -> y.lawless(w));
        }
    }

    private static void alwaysBarred() {
        Check.edge(27, "KINDS each of which is, in one and the same WARD, BARRED in each of the next 24 HOURS (this one first), as bits.");
        Check.due("without WARDS", Check.landOf("act 0 from 0 to 99 fine 1;").alwaysBarred(), 0);
        Check.due("without ACTS", Check.landOf("ward 0;").alwaysBarred(), 0);
        Check.due("KINDS 0 and 9", Check.landOf("ward 0;act 9 from 0 to 99 fine 0;act 0 from 0 to 0 fine 0;").alwaysBarred(), 513);
        Check.due("all but the first HOUR", Check.landOf("ward 0;act 1 from 1 to 23 fine 1;degree:hour;").alwaysBarred(), 0);
        Check.due("all but the last HOUR", Check.landOf("ward 0;act 1 from 0 to 22 fine 1;degree:hour;").alwaysBarred(), 0);
        Check.due("KIND 0, not all HOURS", Check.landOf("ward 0;act 0 from 0 to 5 fine 1;degree:hour;").alwaysBarred(), 0);
        Check.due("just 24 HOURS", Check.landOf("ward 0;act 1 from 0 to 0 fine 1;degree:day;").alwaysBarred(), 2);
        Check.due("23 HOURS", Check.landOf("ward 0;act 1 from 0 to 0 fine 1;degree:day;hour 1;").alwaysBarred(), 0);
        Check.due("by ACTS in turn", Check.landOf("ward 0;act 1 from 0 to 11 fine 1;act 1 from 12 to 23 fine 1;degree:hour;")
            .alwaysBarred(), 2);
        Check.due("by KINDS in turn", Check.landOf("ward 0;act 1 from 0 to 11 fine 1;act 2 from 12 to 23 fine 1;degree:hour;")
            .alwaysBarred(), 0);
        Check.due("by KINDS in turn, and another one", Check.landOf("ward 0;act 1 from 0 to 11 fine 1;act 2 from 12 to 23 fine 1;"
            + "act 3 from 0 to 23 fine 1;degree:hour;").alwaysBarred(), 8);
        Check.due("in WARDS in turn", Check.landOf("ward 0;ward 0;act 1 from 0 to 9 fine 1;prevails:hour<12 and ward=0 or hour>11 and "
            + "ward=1;").alwaysBarred(), 0);
        Check.due("each in a WARD of its own", Check.landOf("ward 0;ward 0;ward 9;act 1 from 0 to 0 fine 1;act 4 from 9 to 9 fine 1;")
            .alwaysBarred(), 18);
        DegreeLaws x = Check.landOf("ward 0;act 1 from 0 to 9 fine 1;");
        x.repeal(0);
        Check.due("repealed", x.alwaysBarred(), 0);
    }

    private static void strictest() {
        Check.edge(28, "The HOUR to come (in 0 to 200) in which most ACTS are IN FORCE in all WARDS together, the first: in how many HOURS.");
        Check.due("without WARDS", Check.landOf("act 0 from 0 to 99 fine 1;").strictest(), 0);
        Check.due("none ever", Check.landOf("ward 0;act 0 from 1 to 99 fine 1;").strictest(), 0);
        Check.due("all alike", Check.landOf("ward 0;act 0 from 0 to 99 fine 1;").strictest(), 0);
        String ninth = "ward 0;act 1 from 9 to 9 fine 1;degree:day;";
        Check.due("in 200", Check.landOf(ninth + "hour 16;").strictest(), 200);
        Check.due("in 201", Check.landOf(ninth + "hour 15;").strictest(), 0);
        Check.due("the first of like ones", Check.landOf("ward 0;act 1 from 7 to 8 fine 1;degree:hour;").strictest(), 7);
        // in hour 2 one act in each of two wards; in hour 5 two acts in ward 1; in hour 9 one in each ward and one more in ward 0
        String turns = "ward 0;ward 0;act 1 from 2 to 2 fine 1;act 2 from 5 to 5 fine 1;act 3 from 5 to 5 fine 1;";
        Check.due("in all WARDS together", Check.landOf(turns + "degree:hour;prevails:kind=1 or ward=1;").strictest(), 2);
        Check.due("in all WARDS together", Check.landOf(turns + "act 4 from 9 to 9 fine 1;act 5 from 9 to 9 fine 1;degree:hour;"
            + "prevails:kind=1 or kind=4 or ward=1 and kind<4 or kind=5 and ward=0;").strictest(), 9);
        Check.due("one in two WARDS is more than one in one", Check.landOf("ward 0;ward 0;act 1 from 3 to 3 fine 1;"
            + "act 1 from 4 to 4 fine 1;degree:hour;prevails:act=1 or ward=1;").strictest(), 4);
        Check.due("of the first WARD too", Check.landOf("ward 0;ward 0;act 1 from 3 to 3 fine 1;act 2 from 3 to 3 fine 1;"
            + "act 1 from 4 to 4 fine 1;degree:hour;prevails:act<2 and ward=0 or act=2 and ward=1;").strictest(), 3);
    }
}
