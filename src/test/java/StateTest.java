/** Promises 11 to 20: deeds of state, undoing, told ones, seasons. */
public final class StateTest {
    private static final String PLAIN =
        "ward 10;ward 20 beside 0;ward 30 beside 1;act 1 from 10 to 19 fine 5;"
        + "act 1 from 15 to 30 fine 7;act 2 from 20 to 99 fine 9;degree:base+fire-ice+hour;";

    public static void main(String[] args) {
        fires();
        ices();
        amending();
        repealing();
        hoursGoBy();
        deeds();
        undoing();
        tenAtMost();
        judging();
        repealedOnes();
        whyNot();
        performing();
        seasons();
        seasonsWithoutWards();
        Check.end();
    }

    private static void laid(DegreeLaws x, int w, int fire, int ice, int fireHours, int iceHours) {
        Check.due("FIRE of " + w, x.ward(w, 2), fire);
        Check.due("ICE of " + w, x.ward(w, 3), ice);
        Check.due("FIRE's HOURS of " + w, x.ward(w, 4), fireHours);
        Check.due("ICE's HOURS of " + w, x.ward(w, 5), iceHours);
    }

    private static void fires() {
        DegreeLaws x = Check.landOf(PLAIN);
        Check.due("fire(0, 21, 2)", x.fire(0, 21, 2), 31);
        laid(x, 0, 21, 0, 2, 0);
        laid(x, 1, 0, 0, 0, 0);
        Check.due("its last hour", x.degree(0, 1), 32);
        Check.due("behind it", x.degree(0, 2), 12);
        x.hours(1);
        laid(x, 0, 21, 0, 1, 0);
        x.hours(1);
        laid(x, 0, 0, 0, 0, 0);
        Check.due("fire(0, 60, 99)", x.fire(0, 60, 99), 72);
        Check.due("a later one strikes", x.fire(0, 5, 3), 17);
        laid(x, 0, 5, 0, 3, 0);
        Check.due("none is left", x.fire(0, 0, 9), 12);
        laid(x, 0, 0, 0, 0, 0);
        Check.due("each is a deed of state", x.count(7), 6);
        Check.refused("fire(3, 61, 0)", x, Check.NSE, () -> x.fire(3, 61, 0));
        Check.refused("fire(-1, 1, 1)", x, Check.NSE, () -> x.fire(-1, 1, 1));
        Check.refused("fire(0, -1, 1)", x, Check.IAE, () -> x.fire(0, -1, 1));
        Check.refused("fire(0, 61, 1)", x, Check.IAE, () -> x.fire(0, 61, 1));
        Check.refused("fire(0, 1, 0)", x, Check.IAE, () -> x.fire(0, 1, 0));
        Check.refused("fire(0, 0, 0)", x, Check.IAE, () -> x.fire(0, 0, 0));
        Check.refused("fire(0, 1, 100)", x, Check.IAE, () -> x.fire(0, 1, 100));
    }

    private static void ices() {
        DegreeLaws x = Check.landOf(PLAIN);
        Check.due("ice(1, 15, 4)", x.ice(1, 15, 4), 5);
        x.hours(3);
        laid(x, 1, 0, 15, 0, 1);
        Check.due("its last hour", x.degree(1, 0), 8);
        Check.due("behind it", x.degree(1, 1), 24);
        Check.due("fire and ice", x.fire(1, 20, 9), 28);
        laid(x, 1, 20, 15, 9, 1);
        Check.due("ice(1, 60, 99)", x.ice(1, 60, 99), 0);
        Check.due("none is left", x.ice(1, 0, 1), 43);
        laid(x, 1, 20, 0, 9, 0);
        Check.refused("ice(3, 1, 1)", x, Check.NSE, () -> x.ice(3, 1, 1));
        Check.refused("ice(0, 61, 1)", x, Check.IAE, () -> x.ice(0, 61, 1));
        Check.refused("ice(0, -1, 1)", x, Check.IAE, () -> x.ice(0, -1, 1));
        Check.refused("ice(0, 1, 0)", x, Check.IAE, () -> x.ice(0, 1, 0));
        Check.refused("ice(0, 1, 100)", x, Check.IAE, () -> x.ice(0, 1, 100));
    }

    private static void amending() {
        DegreeLaws x = Check.landOf(PLAIN);
        Check.due("in no ward", x.amend(0, 0, 9), 0);
        Check.due("in two wards", x.amend(0, 10, 25), 2);
        Check.due("in all", x.amend(0, 0, 99), 3);
        Check.due("one degree", x.amend(0, 30, 30), 1);
        Check.due("first", x.act(0, 1), 30);
        Check.due("second", x.act(0, 2), 30);
        Check.due("four deeds", x.count(7), 4);
        x.amend(1, 41, 42);
        x.amend(2, 51, 52);
        int[] want = {30, 30, 41, 42, 51, 52};
        for (int i = 0; i < 6; i++) {
            Check.due("degrees of act " + i / 2, x.act(i / 2, 1 + i % 2), want[i]);
        }
        x.undo(2);
        x.repeal(0);
        Check.due("repealed: in none", x.amend(0, 0, 99), 0);
        Check.due("amended all the same", x.act(0, 2), 99);
        Check.due("still repealed", x.act(0, 4), 1);
        Check.refused("amend(3, 5, 4)", x, Check.NSE, () -> x.amend(3, 5, 4));
        Check.refused("amend(-1, 5, 6)", x, Check.NSE, () -> x.amend(-1, 5, 6));
        Check.refused("amend(0, -1, 4)", x, Check.IAE, () -> x.amend(0, -1, 4));
        Check.refused("amend(0, 5, 4)", x, Check.IAE, () -> x.amend(0, 5, 4));
        Check.refused("amend(0, 5, 100)", x, Check.IAE, () -> x.amend(0, 5, 100));
        Check.refused("amend(0, 100, 100)", x, Check.IAE, () -> x.amend(0, 100, 100));
        DegreeLaws y = Check.landOf("ward 5;act 1 from 0 to 9 fine 1;act 1 from 0 to 40 fine 1;prevails:span>20;");
        Check.due("the law tells span", y.code(0, 0), 2);
        Check.due("a wider span", y.amend(0, 0, 21), 1);
        Check.due("both", y.code(0, 0), 3);
        y.undo(1);
        Check.due("as it was", y.code(0, 0), 2);
    }

    private static void repealing() {
        DegreeLaws x = Check.landOf(PLAIN);
        Check.due("repeal(1)", x.repeal(1), 2);
        Check.due("it is", x.act(1, 4), 1);
        Check.due("others aren't", x.act(0, 4) + x.act(2, 4), 0);
        Check.due("count(3)", x.count(3), 2);
        Check.due("count(2)", x.count(2), 3);
        Check.refused("repeal(1) again", x, Check.ISE, () -> x.repeal(1));
        Check.refused("repeal(3)", x, Check.NSE, () -> x.repeal(3));
        Check.refused("repeal(-1)", x, Check.NSE, () -> x.repeal(-1));
        Check.due("repeal(2)", x.repeal(2), 1);
        Check.due("repeal(0)", x.repeal(0), 0);
        Check.due("no code", x.code(1, 0), 0);
        DegreeLaws y = Check.landOf("ward 5;act 1 from 0 to 9 fine 1;act 1 from 0 to 9 fine 2;prevails:many=1;");
        Check.due("two speak, none is in force", y.code(0, 0), 0);
        y.repeal(0);
        Check.due("one speaks and is", y.code(0, 0), 2);
    }

    private static void hoursGoBy() {
        DegreeLaws x = Check.landOf("hour 7;");
        Check.due("hours(1)", x.hours(1), 8);
        Check.due("hours(99)", x.hours(99), 107);
        Check.due("one deed a call", x.count(7), 2);
        Check.refused("hours(0)", x, Check.IAE, () -> x.hours(0));
        Check.refused("hours(100)", x, Check.IAE, () -> x.hours(100));
        Check.refused("hours(-1)", x, Check.IAE, () -> x.hours(-1));
    }

    private static void deeds() {
        DegreeLaws x = Check.landOf(PLAIN);
        Check.due("done(1, 0, 6)", x.done(1, 0, 6), 5);
        Check.due("HOUR", x.count(4), 6);
        Check.due("PAID", x.count(5), 5);
        Check.due("done(1, 0, 24)", x.done(1, 0, 24), 12);
        Check.due("HOUR", x.count(4), 30);
        Check.due("PAID", x.count(5), 17);
        Check.due("done(9, 0, 1)", x.done(9, 0, 1), 0);
        Check.due("three deeds", x.count(7), 3);
        DegreeLaws y = Check.landOf(PLAIN + "whole;");
        Check.due("whole", y.done(2, 0, 12), 18);
        Check.due("HOUR", y.count(4), 12);
        Check.refused("done(10, 3, 0)", x, Check.NSE, () -> x.done(10, 3, 0));
        Check.refused("done(10, 0, 1)", x, Check.IAE, () -> x.done(10, 0, 1));
        Check.refused("done(-1, 0, 1)", x, Check.IAE, () -> x.done(-1, 0, 1));
        Check.refused("done(1, 0, 0)", x, Check.IAE, () -> x.done(1, 0, 0));
        Check.refused("done(1, 0, 25)", x, Check.IAE, () -> x.done(1, 0, 25));
    }

    private static void undoing() {
        DegreeLaws x = Check.landOf(PLAIN);
        String[] portraits = new String[7];
        for (int i = 0; i < 7; i++) {
            portraits[i] = Check.portrait(x);
            switch (i) {
                case 0: x.fire(0, 9, 9); break;
                case 1: x.ice(2, 8, 8); break;
                case 2: x.amend(1, 3, 77); break;
                case 3: x.repeal(2); break;
                case 4: x.hours(50); break;
                case 5: x.done(1, 1, 5); break;
                default:
            }
        }
        Check.due("count(7)", x.count(7), 6);
        Check.refused("undo(0)", x, Check.IAE, () -> x.undo(0));
        Check.refused("undo(7)", x, Check.IAE, () -> x.undo(7));
        Check.refused("undo(11)", x, Check.IAE, () -> x.undo(11));
        Check.refused("undo(-1)", x, Check.IAE, () -> x.undo(-1));
        for (int i = 5; i >= 2; i--) {
            Check.due("undo(1)", x.undo(1), i);
            Check.due("as it was ahead of deed " + i, Check.portrait(x).equals(portraits[i]) ? 1 : 0, 1);
        }
        Check.due("undo(2)", x.undo(2), 0);
        Check.due("as at first", Check.portrait(x).equals(portraits[0]) ? 1 : 0, 1);
        Check.refused("undo(1)", x, Check.IAE, () -> x.undo(1));
    }

    private static void tenAtMost() {
        DegreeLaws x = new DegreeLaws();
        for (int i = 0; i < 13; i++) {
            x.hours(1 + i);
        }
        Check.due("ten", x.count(7), 10);
        Check.due("undo(4)", x.undo(4), 6);
        Check.due("HOUR", x.count(4), 45);
        x.hours(7);
        Check.due("seven", x.count(7), 7);
        Check.due("undo(7)", x.undo(7), 0);
        Check.due("the eldest three stay", x.count(4), 6);
    }

    private static void judged(DegreeLaws x, int place, int why, int hour, int paid) {
        String ahead = Check.portrait(x);
        Check.due("judge 0", x.judge(0, 0), place);
        Check.due("judge 1", x.judge(0, 1), why);
        Check.due("judge 2", x.judge(0, 2), hour);
        Check.due("judge 3", x.judge(0, 3), paid);
        Check.due("nothing is done", Check.portrait(x).equals(ahead) ? 1 : 0, 1);
    }

    private static void judging() {
        DegreeLaws x = Check.landOf(PLAIN);
        Check.trayOf(x, 0);
        judged(x, -1, 0, 0, 0);
        // 5; fire of 21 in ward 1 makes 44 there; act 2 repealed; an hour; 7 in ward 1 behind the fire
        Check.trayOf(x, 0, 1003, 20121, 1101, 40002, -1, 2204, 1102);
        judged(x, -1, 0, 3 + 1 + 1 + 4 + 2, 5 + 0 + 0 + 7);
        Check.trayOf(x, 0, 1003, 40001, 40001, 1003);
        judged(x, 2, 2, 3, 5);
        Check.trayOf(x, 0, 40003);
        judged(x, 0, 1, 0, 0);
        // ice of 60 for 6 hours, and once more behind it
        Check.trayOf(x, 0, 30060, 1001, 1005, 1001);
        judged(x, -1, 0, 7, 12);
        Check.trayOf(x, 0, 30060, 1001, 30000, 1001);
        judged(x, -1, 0, 2, 5);
        Check.refused("judge(4, 9)", x, Check.NSE, () -> x.judge(4, 9));
        Check.refused("judge(-1, 0)", x, Check.NSE, () -> x.judge(-1, 0));
        Check.refused("judge(1, 9)", x, Check.ISE, () -> x.judge(1, 9));
        Check.refused("judge(0, 4)", x, Check.IAE, () -> x.judge(0, 4));
        Check.refused("judge(0, -1)", x, Check.IAE, () -> x.judge(0, -1));
    }

    private static void repealedOnes() {
        DegreeLaws x = Check.landOf(PLAIN);
        Check.trayOf(x, 0, 40001, 40002, 40001);
        judged(x, 2, 2, 0, 0);
        Check.due("two", x.perform(0), 2);
        Check.due("act 0 is left", x.count(3), 1);
        Check.due("both are repealed", x.act(1, 4) + x.act(2, 4), 2);
    }

    private static void whyNot() {
        DegreeLaws x = Check.landOf(PLAIN);
        long[] fine = {-1, 1, 24, 1, 9224, 20000, 20260, 30000, 30260, 40000, 40002};
        long[] none = {-2, 0, 25, 99, 300, 301, 901, 9225, 10000, 10001, 19999, 20061, 20300, 20301, 21000, 29900, 30061,
            30300, 31001, 39999, 40003, 40008, 50000, 50001, 4294967295L, 4294967297L, -4294967295L, Long.MIN_VALUE,
            Long.MAX_VALUE};
        for (long v : fine) {
            Check.trayOf(x, 0, v);
            Check.due("why " + v, x.judge(0, 1), 0);
        }
        for (long v : none) {
            Check.trayOf(x, 0, v);
            Check.due("why " + v, x.judge(0, 1), 1);
        }
    }

    private static void performing() {
        DegreeLaws x = Check.landOf(PLAIN);
        DegreeLaws y = Check.landOf(PLAIN);
        Check.trayOf(x, 0, 1003, 20121, 40002, -1, 30207, 40002, 1003);
        Check.trayOf(y, 0, 1003, 20121, 40002, -1, 30207, 40002, 1003);
        Check.due("perform", x.perform(0), 5);
        y.done(1, 0, 3);
        y.fire(1, 21, 6);
        y.repeal(2);
        y.hours(1);
        y.ice(2, 7, 6);
        Check.due("as one by one", Check.portrait(x).equals(Check.portrait(y)) ? 1 : 0, 1);
        Check.due("five deeds", x.count(7), 5);
        x.undo(2);
        y.undo(2);
        Check.due("undone alike", Check.portrait(x).equals(Check.portrait(y)) ? 1 : 0, 1);
        Check.trayOf(x, 1);
        Check.due("perform nothing", x.perform(1), 0);
        x.tray(2, 2, 30);
        for (int i = 0; i < 30; i++) {
            x.write(2, i, -1);
        }
        Check.due("perform 30", x.perform(2), 30);
        Check.due("ten can be undone", x.count(7), 10);
        Check.refused("perform(4)", x, Check.NSE, () -> x.perform(4));
        Check.refused("perform(-1)", x, Check.NSE, () -> x.perform(-1));
        Check.refused("perform(3)", x, Check.ISE, () -> x.perform(3));
    }

    /** The same season by single calls. */
    private static int seasonByHand(DegreeLaws x, int seed, int times) {
        int s = seed;
        for (int i = 0; i < times; i++) {
            int[] draws = new int[4];
            int t = s;
            for (int k = 0; k < 4; k++) {
                t = t * 1103515245 + 12345;
                draws[k] = t >>> 16;
            }
            int used;
            switch (draws[0] % 5) {
                case 2:
                    x.fire(draws[1] % x.count(1), draws[2] % 61, 6);
                    used = 3;
                    break;
                case 3:
                    x.ice(draws[1] % x.count(1), draws[2] % 61, 6);
                    used = 3;
                    break;
                case 4:
                    x.done(draws[1] % 10, draws[2] % x.count(1), 1 + draws[3] % 24);
                    used = 4;
                    break;
                default:
                    x.hours(1);
                    used = 1;
            }
            for (int k = 0; k < used; k++) {
                s = s * 1103515245 + 12345;
            }
        }
        return times;
    }

    private static void seasons() {
        int[] seeds = {0, 1, -1, 12345, 987654321, Integer.MIN_VALUE, Integer.MAX_VALUE};
        for (int seed : seeds) {
            DegreeLaws x = Check.landOf(PLAIN);
            DegreeLaws y = Check.landOf(PLAIN);
            Check.due("season(" + seed + ", 30)", x.season(seed, 30), seasonByHand(y, seed, 30));
            Check.due("as by hand", Check.portrait(x).equals(Check.portrait(y)) ? 1 : 0, 1);
            Check.due("ten can be undone", x.count(7), 10);
            x.undo(7);
            y.undo(7);
            Check.due("undone alike", Check.portrait(x).equals(Check.portrait(y)) ? 1 : 0, 1);
        }
        DegreeLaws one = Check.landOf("ward 50;act 3 from 40 to 99 fine 8;whole;");
        DegreeLaws two = Check.landOf("ward 50;act 3 from 40 to 99 fine 8;whole;");
        Check.due("in one ward", one.season(4, 30), seasonByHand(two, 4, 30));
        Check.due("as by hand", Check.portrait(one).equals(Check.portrait(two)) ? 1 : 0, 1);
        DegreeLaws x = Check.landOf(PLAIN);
        Check.due("season(5, 1)", x.season(5, 1), 1);
        Check.refused("season(1, 0)", x, Check.IAE, () -> x.season(1, 0));
        Check.refused("season(1, 31)", x, Check.IAE, () -> x.season(1, 31));
        Check.refused("season(1, -1)", x, Check.IAE, () -> x.season(1, -1));
    }

    private static void seasonsWithoutWards() {
        DegreeLaws x = new DegreeLaws();
        int s = 77;
        int hours = 0;
        for (int i = 0; i < 30; i++) {
            s = s * 1103515245 + 12345;
            hours += (s >>> 16) % 5 < 2 ? 1 : 0;
        }
        Check.due("season(77, 30)", x.season(77, 30), hours);
        Check.due("HOUR", x.count(4), hours);
        Check.due("DEEDS", x.count(7), Math.min(10, hours));
    }
}
