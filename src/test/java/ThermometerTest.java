/** Promises 41 to 43: by how much a thermometer was breathed on. */
public final class ThermometerTest {
    private static final String PLAIN =
        "ward 10;ward 20 beside 0;ward 30 beside 1;act 1 from 10 to 19 fine 5;"
        + "act 1 from 15 to 30 fine 7;act 2 from 20 to 99 fine 9;degree:base+fire-ice+hour;";

    public static void main(String[] args) {
        plain();
        firesOfThen();
        otherWards();
        hoursOfThen();
        keptDegrees();
        looking();
        refusals();
        Check.end();
    }

    private static void found(DegreeLaws x, int kind, int w, int first, int last) {
        int many = first > last ? 0 : last - first + 1;
        Check.due("seen", x.seen(0, kind, w), many);
        for (int k = 0; k < many; k++) {
            Check.due("breath " + k, x.breath(0, kind, w, k), first + k);
        }
        Check.due("not so many", x.breath(0, kind, w, many), 99);
        Check.due("not so many", x.breath(0, kind, w, Integer.MAX_VALUE), 99);
    }

    private static void plain() {
        DegreeLaws alone = Check.landOf(PLAIN + "hour 5;");
        Check.trayOf(alone, 0, 5, 5);
        Check.due("breath alone", alone.breath(0, 1, 0, 0), -3);
        Check.trayOf(alone, 0, 12, -1, 5);
        Check.due("breath of another tray", alone.breath(0, 1, 0, 0), 1);
        DegreeLaws x = Check.landOf(PLAIN + "hour 5;");
        // it was 14 an hour ago and 13 two hours ago
        Check.trayOf(x, 0, 5, 5);
        found(x, 1, 0, -3, 0);
        Check.trayOf(x, 0, 12, -1, 5);
        found(x, 1, 0, 1, 2);
        Check.trayOf(x, 0, 5, 12);
        found(x, 1, 0, 1, 0);
        Check.trayOf(x, 0, 9);
        found(x, 2, 0, 6, 20);
        Check.trayOf(x, 0, 0, 0, 0, 0, 0);
        // 10 to 14: free below 10 and above 30
        Check.due("below or above", x.seen(0, 1, 0), 16);
        Check.due("the least", x.breath(0, 1, 0, 0), -20);
        Check.due("the last below", x.breath(0, 1, 0, 15), -5);
        Check.trayOf(x, 0, -1, -1, -1, -1, -1, -1, -1);
        found(x, 1, 0, -20, 20);
        Check.trayOf(x, 0, 792);
        found(x, 1, 0, 1, 0);
    }

    private static void firesOfThen() {
        DegreeLaws x = Check.landOf("ward 10;act 1 from 20 to 29 fine 4;");
        x.hours(5);
        x.fire(0, 10, 3);
        x.hours(5);
        // HOURS 9, 8 (10 degrees), 7, 6, 5 (20), 4 (10)
        Check.trayOf(x, 0, 0, 0, 4, 4, 4, 0);
        found(x, 1, 0, 0, 9);
        x.ice(0, 5, 9);
        found(x, 1, 0, 0, 9);
        x.fire(0, 0, 1);
        found(x, 1, 0, 1, 0);
        x.undo(1);
        x.fire(0, 1, 1);
        Check.trayOf(x, 0, 0, 0, 0, 0, 0, 0);
        // it was 10 all the time: 20 to 29 is out
        Check.due("seen", x.seen(0, 1, 0), 31);
        Check.due("9", x.breath(0, 1, 0, 29), 9);
        Check.due("20", x.breath(0, 1, 0, 30), 20);
    }

    private static void otherWards() {
        DegreeLaws x = Check.landOf("ward 50;ward 10;ward 10;act 1 from 20 to 29 fine 4;hour 4;");
        x.fire(2, 10, 3);
        x.ice(1, 5, 2);
        x.hours(5);
        // in ward 2 HOURS 8, 7 (10 degrees), 6, 5, 4 (20), 3 (10)
        Check.trayOf(x, 0, 0, 0, 4, 4, 4, 0);
        found(x, 1, 2, 0, 9);
        // in ward 1 10, 10, 10, 5, 5, 10
        Check.trayOf(x, 0, 4, 4, 4, 0, 0, 4);
        found(x, 1, 1, 10, 14);
    }

    private static void hoursOfThen() {
        DegreeLaws x = Check.landOf("ward 15;act 1 from 10 to 19 fine 4;prevails:hour<12;hour 14;");
        // hours 13, 12 (none in force), 11, 10
        Check.trayOf(x, 0, 0, 0, 4, 4);
        found(x, 1, 0, -5, 4);
        Check.trayOf(x, 0, 4);
        found(x, 1, 0, 1, 0);
    }

    private static void keptDegrees() {
        DegreeLaws x = Check.landOf("ward 5;ward 95;act 1 from 0 to 0 fine 3;act 1 from 99 to 99 fine 2;hour 1;");
        Check.trayOf(x, 0, 3);
        found(x, 1, 0, -20, -5);
        Check.trayOf(x, 0, 2);
        found(x, 1, 1, 4, 20);
    }

    private static void looking() {
        DegreeLaws x = Check.landOf(PLAIN + "hour 5;");
        Check.trayOf(x, 0, 5, 5);
        Check.due("halves in an hour", x.look(0, 1, 0), 1);
        Check.trayOf(x, 0, 5, 12);
        Check.due("there are none", x.look(0, 1, 0), -1);
        Check.trayOf(x, 0, -1);
        Check.due("of a kind that is never barred", x.look(0, 3, 0), 0);
        DegreeLaws one = Check.landOf("ward 50;act 1 from 50 to 50 fine 1;hour 1;");
        Check.trayOf(one, 0, 1);
        Check.due("one alone", one.seen(0, 1, 0), 1);
        Check.due("of one alone", one.look(0, 1, 0), 0);
        DegreeLaws y = Check.landOf("ward 0;act 1 from 60 to 99 fine 1;degree:hour*3;hour 1;");
        Check.trayOf(y, 0, -1);
        // in hour 20 it is 60: breaths from 0 to 20 are fined, 20 are not
        Check.due("in 19 hours", y.look(0, 1, 0), 19);
        DegreeLaws z = Check.landOf("ward 0;act 1 from 20 to 99 fine 1;degree:day*20;hour 1;");
        Check.trayOf(z, 0, -1);
        Check.due("in 23 hours", z.look(0, 1, 0), 23);
        DegreeLaws last = Check.landOf("ward 0;act 1 from 30 to 99 fine 1;degree:day*30;");
        Check.trayOf(last, 0, -1);
        Check.due("in 24 hours", last.look(0, 1, 0), 24);
    }

    private static void refusals() {
        DegreeLaws x = Check.landOf(PLAIN + "hour 5;");
        Check.refused("seen(4, 10, 3)", x, Check.NSE, () -> x.seen(4, 10, 3));
        Check.refused("seen(0, 10, 3)", x, Check.NSE, () -> x.seen(0, 10, 3));
        Check.refused("seen(0, 10, 0)", x, Check.ISE, () -> x.seen(0, 10, 0));
        Check.refused("breath(4, 1, 0, -1)", x, Check.NSE, () -> x.breath(4, 1, 0, -1));
        Check.refused("breath(0, 1, 3, -1)", x, Check.NSE, () -> x.breath(0, 1, 3, -1));
        Check.refused("breath(0, 1, 0, -1)", x, Check.ISE, () -> x.breath(0, 1, 0, -1));
        Check.refused("look(-1, 1, 0)", x, Check.NSE, () -> x.look(-1, 1, 0));
        Check.refused("look(0, 1, -1)", x, Check.NSE, () -> x.look(0, 1, -1));
        Check.refused("look(0, 10, 0)", x, Check.ISE, () -> x.look(0, 10, 0));
        long[][] wrong = {{}, {793}, {-2}, {0, 0, 0, 0, 0, 0}, {Long.MAX_VALUE}, {4294967296L}, new long[25]};
        for (long[] numbers : wrong) {
            Check.trayOf(x, 0, numbers);
            Check.refused("seen", x, Check.IAE, () -> x.seen(0, 1, 0));
            Check.refused("breath", x, Check.IAE, () -> x.breath(0, 1, 0, 0));
            Check.refused("look", x, Check.IAE, () -> x.look(0, 1, 0));
        }
        Check.trayOf(x, 0, 5, 5);
        Check.refused("seen(0, 10, 0)", x, Check.IAE, () -> x.seen(0, 10, 0));
        Check.refused("seen(0, -1, 0)", x, Check.IAE, () -> x.seen(0, -1, 0));
        Check.refused("breath(0, 1, 0, -1)", x, Check.IAE, () -> x.breath(0, 1, 0, -1));
        Check.refused("breath(0, 10, 0, 0)", x, Check.IAE, () -> x.breath(0, 10, 0, 0));
        Check.refused("look(0, 10, 0)", x, Check.IAE, () -> x.look(0, 10, 0));
        long[] day = new long[24];
        java.util.Arrays.fill(day, -1);
        Check.trayOf(x, 0, day);
        Check.due("24 numbers", x.seen(0, 1, 0), 41);
        long[] more = new long[25];
        java.util.Arrays.fill(more, -1);
        Check.trayOf(x, 0, more);
        Check.refused("25 numbers", x, Check.IAE, () -> x.seen(0, 1, 0));
    }
}
