/** Edges of promises 11 to 20: deeds of state. */
public final class EdgeStateTest {
    private static final String PLAIN = "ward 10;ward 20 beside 0;act 1 from 10 to 30 fine 5;act 1 from 15 to 40 fine 7;"
        + "act 2 from 20 to 99 fine 9;hour 6;";
    private static final String FIVE = "ward 10;ward 20;ward 30;ward 40;ward 50;";
    private static final int[] OUT = {Integer.MIN_VALUE, -1, Integer.MAX_VALUE};

    public static void main(String[] args) {
        fire();
        ice();
        laidOnBounds();
        amend();
        amendBounds();
        repeal();
        hours();
        done();
        doneBounds();
        undo();
        undoBounds();
        judgePlaces();
        judgeThen();
        judgeBounds();
        perform();
        performBounds();
        season();
        Check.end();
    }

    private static DegreeLaws plain() {
        DegreeLaws x = Check.landOf(PLAIN);
        x.image(0);
        x.fire(0, 15, 40);
        x.repeal(1);
        x.hours(2);
        x.done(1, 0, 3);
        Check.trayOf(x, 2, 1003, -1, 20010);
        x.feed(0x77617264, 0x20313b20, 0x20202020, 0x20202020, 0x20202020);
        return x;
    }

    private static void fire() {
        Check.edge(11, "FIRE: DEGREE there now.");
        DegreeLaws x = Check.landOf(FIVE);
        Check.due("0 DEGREES", x.fire(0, 0, 1), 10);
        Check.due("0 DEGREES are a DEED OF STATE too", x.count(7), 1);
        Check.due("1 DEGREE", x.fire(0, 1, 1), 11);
        Check.due("60 DEGREES", x.fire(0, 60, 99), 70);
        Check.due("99 at most", x.fire(4, 60, 1), 99);
        Check.due("less than ahead", x.fire(4, 5, 1), 55);
        Check.due("99 HOURS", x.ward(0, 4), 99);
        Check.due("1 HOUR", x.ward(4, 4), 1);
        Check.due("other WARDS", x.degree(3, 0), 40);
        Check.due("five DEEDS OF STATE", x.count(7), 5);
    }

    private static void ice() {
        Check.edge(12, "ICE: DEGREE there now.");
        DegreeLaws x = Check.landOf(FIVE);
        Check.due("0 DEGREES", x.ice(4, 0, 1), 50);
        Check.due("0 DEGREES are a DEED OF STATE too", x.count(7), 1);
        Check.due("1 DEGREE", x.ice(4, 1, 99), 49);
        Check.due("60 DEGREES", x.ice(4, 60, 99), 0);
        Check.due("0 at least", x.ice(0, 11, 1), 0);
        Check.due("less than ahead", x.ice(0, 9, 1), 1);
        Check.due("99 HOURS", x.ward(4, 5), 99);
        Check.due("1 HOUR", x.ward(0, 5), 1);
        Check.due("other WARDS", x.degree(3, 0), 40);
        Check.due("five DEEDS OF STATE", x.count(7), 5);
        Check.due("FIRE isn't touched", x.fire(4, 30, 1), 20);
    }

    private static void laidOnBounds() {
        Check.edge(11, "IllegalArgumentException: DEGREES, HOURS.");
        for (int v : new int[] {Integer.MIN_VALUE, -1, 61, Integer.MAX_VALUE}) {
            Check.refusedOf("fire(0, " + v + ", 1)", EdgeStateTest::plain, Check.IAE, x -> x.fire(0, v, 1));
            Check.refusedOf("fire(2, " + v + ", 1)", EdgeStateTest::plain, Check.NSE, x -> x.fire(2, v, 1));
        }
        for (int v : new int[] {Integer.MIN_VALUE, -1, 0, 100, Integer.MAX_VALUE}) {
            Check.refusedOf("fire(0, 1, " + v + ")", EdgeStateTest::plain, Check.IAE, x -> x.fire(0, 1, v));
            Check.refusedOf("fire(0, 0, " + v + ")", EdgeStateTest::plain, Check.IAE, x -> x.fire(0, 0, v));
            Check.refusedOf("fire(-1, 1, " + v + ")", EdgeStateTest::plain, Check.NSE, x -> x.fire(-1, 1, v));
        }
        for (int w : new int[] {Integer.MIN_VALUE, -1, 2, Integer.MAX_VALUE}) {
            Check.refusedOf("fire(" + w + ", 1, 1)", EdgeStateTest::plain, Check.NSE, x -> x.fire(w, 1, 1));
        }
        Check.edge(12, "IllegalArgumentException: DEGREES, HOURS.");
        for (int v : new int[] {Integer.MIN_VALUE, -1, 61, Integer.MAX_VALUE}) {
            Check.refusedOf("ice(0, " + v + ", 1)", EdgeStateTest::plain, Check.IAE, x -> x.ice(0, v, 1));
            Check.refusedOf("ice(2, " + v + ", 1)", EdgeStateTest::plain, Check.NSE, x -> x.ice(2, v, 1));
        }
        for (int v : new int[] {Integer.MIN_VALUE, -1, 0, 100, Integer.MAX_VALUE}) {
            Check.refusedOf("ice(0, 1, " + v + ")", EdgeStateTest::plain, Check.IAE, x -> x.ice(0, 1, v));
            Check.refusedOf("ice(0, 0, " + v + ")", EdgeStateTest::plain, Check.IAE, x -> x.ice(0, 0, v));
            Check.refusedOf("ice(-1, 1, " + v + ")", EdgeStateTest::plain, Check.NSE, x -> x.ice(-1, 1, v));
        }
        for (int w : new int[] {Integer.MIN_VALUE, -1, 2, Integer.MAX_VALUE}) {
            Check.refusedOf("ice(" + w + ", 1, 1)", EdgeStateTest::plain, Check.NSE, x -> x.ice(w, 1, 1));
        }
    }

    private static void amend() {
        Check.edge(13, "An ACT has two other DEGREES (repealed or not): in how many WARDS it is IN FORCE now.");
        DegreeLaws x = Check.landOf(FIVE + "act 1 from 0 to 0 fine 1;act 1 from 30 to 30 fine 2;");
        Check.due("in none", x.amend(0, 51, 99), 0);
        Check.due("in one", x.amend(0, 50, 50), 1);
        Check.due("in four", x.amend(0, 11, 99), 4);
        Check.due("in all", x.amend(0, 10, 50), 5);
        Check.due("0 to 0", x.amend(0, 0, 0), 0);
        Check.due("99 to 99", x.amend(0, 99, 99), 0);
        Check.due("0 to 99", x.amend(0, 0, 99), 5);
        Check.due("the same once more", x.amend(0, 0, 99), 5);
        Check.due("each is a DEED OF STATE", x.count(7), 8);
        Check.due("the other ACT stays", x.act(1, 1), 30);
        x.repeal(0);
        Check.due("repealed: in none", x.amend(0, 1, 98), 0);
        Check.due("first DEGREE", x.act(0, 1), 1);
        Check.due("second DEGREE", x.act(0, 2), 98);
        Check.due("repealed still", x.act(0, 4), 1);
        DegreeLaws y = Check.landOf(FIVE + "act 1 from 0 to 0 fine 1;act 1 from 30 to 50 fine 2;prevails:many=1;");
        Check.due("where it prevails", y.amend(0, 0, 30), 2);
        Check.due("SPEAKS, but isn't IN FORCE", y.amend(0, 30, 50), 0);
        DegreeLaws z = Check.landOf(FIVE + "act 1 from 10 to 10 fine 1;prevails:span>39;");
        Check.due("by its new span", z.amend(0, 10, 50), 5);
        Check.due("by its new span", z.amend(0, 11, 50), 0);
        DegreeLaws now = Check.landOf("ward 10;act 1 from 0 to 0 fine 1;");
        now.fire(0, 10, 1);
        Check.due("now", now.amend(0, 20, 20), 1);
        Check.due("not in an HOUR", now.amend(0, 10, 10), 0);
        Check.due("without WARDS", Check.landOf("act 1 from 0 to 9 fine 1;").amend(0, 0, 99), 0);
    }

    private static void amendBounds() {
        Check.edge(13, "IllegalArgumentException: they aren't 0 to 99, the second is below the first.");
        int[][] wrong = {{-1, 5}, {-1, -1}, {0, 100}, {100, 100}, {5, 4}, {1, 0}, {99, 98}, {Integer.MIN_VALUE, 5},
            {5, Integer.MAX_VALUE}, {5, Integer.MIN_VALUE}, {5, -1}};
        for (int[] two : wrong) {
            Check.refusedOf("amend(0, " + two[0] + ", " + two[1] + ")", EdgeStateTest::plain, Check.IAE,
                x -> x.amend(0, two[0], two[1]));
            Check.refusedOf("amend(3, " + two[0] + ", " + two[1] + ")", EdgeStateTest::plain, Check.NSE,
                x -> x.amend(3, two[0], two[1]));
        }
        for (int a : new int[] {Integer.MIN_VALUE, -1, 3, 8, Integer.MAX_VALUE}) {
            Check.refusedOf("amend(" + a + ", 0, 1)", EdgeStateTest::plain, Check.NSE, x -> x.amend(a, 0, 1));
        }
    }

    private static void repeal() {
        Check.edge(14, "An ACT is repealed: how many are left.");
        DegreeLaws x = Check.landOf("ward 5;" + "act 1 from 0 to 9 fine 1;".repeat(8));
        int[] order = {7, 0, 3, 6, 1, 5, 2, 4};
        int code = 255;
        for (int i = 0; i < 8; i++) {
            Check.due("repeal(" + order[i] + ")", x.repeal(order[i]), 7 - i);
            code &= ~(1 << order[i]);
            Check.due("the others are IN FORCE", x.code(0, 0), code);
            Check.due("count(3)", x.count(3), 7 - i);
        }
        Check.due("ACTS", x.count(2), 8);
        Check.edge(14, "IllegalStateException: it is.");
        for (int a = 0; a < 8; a++) {
            int act = a;
            Check.refused("repeal(" + a + ") again", x, Check.ISE, () -> x.repeal(act));
        }
        x.undo(1);
        Check.due("UNDONE it can be again", x.repeal(4), 0);
        Check.refusedOf("repeal(1)", EdgeStateTest::plain, Check.ISE, y -> y.repeal(1));
        for (int a : new int[] {Integer.MIN_VALUE, -1, 3, 8, 32, Integer.MAX_VALUE}) {
            Check.refusedOf("repeal(" + a + ")", EdgeStateTest::plain, Check.NSE, y -> y.repeal(a));
        }
    }

    private static void hours() {
        Check.edge(15, "n HOURS (1 to 99) go by: HOUR then. IllegalArgumentException: n.");
        DegreeLaws x = Check.landOf("hour 999;");
        Check.due("hours(1)", x.hours(1), 1000);
        Check.due("hours(99)", x.hours(99), 1099);
        Check.due("count(4)", x.count(4), 1099);
        Check.due("HOURS of one call are one DEED OF STATE", x.count(7), 2);
        Check.due("UNDONE at once", x.undo(1), 1);
        Check.due("count(4)", x.count(4), 1000);
        Check.due("without a LAND", new DegreeLaws().hours(99), 99);
        for (int n : new int[] {Integer.MIN_VALUE, -1, 0, 100, Integer.MAX_VALUE}) {
            Check.refusedOf("hours(" + n + ")", EdgeStateTest::plain, Check.IAE, y -> y.hours(n));
        }
    }

    private static void done() {
        Check.edge(16, "A DEED is done now: what it is FINED.");
        DegreeLaws x = Check.landOf("ward 5;act 0 from 0 to 9 fine 99;act 9 from 0 to 9 fine 1;act 3 from 0 to 9 fine 0;");
        Check.due("begun", x.done(0, 0, 24), 99);
        Check.due("HOUR", x.count(4), 24);
        Check.due("KIND 9", x.done(9, 0, 1), 1);
        Check.due("HOUR", x.count(4), 25);
        Check.due("PAID", x.count(5), 100);
        Check.due("BARRED at FINE 0", x.done(3, 0, 1), 0);
        Check.due("PAID", x.count(5), 100);
        Check.due("each is a DEED OF STATE", x.count(7), 3);
        DegreeLaws y = Check.landOf("ward 5;" + "act 0 from 0 to 9 fine 99;".repeat(8) + "whole;");
        y.fire(0, 9, 99);
        y.ice(0, 9, 23);
        Check.due("all HOURS but the last", y.done(0, 0, 24), 792 * 23);
        Check.due("none now", y.done(0, 0, 24), 0);
        Check.due("PAID", y.count(5), 792 * 23);
    }

    private static void doneBounds() {
        Check.edge(16, "A DEED is done now");
        for (int v : new int[] {Integer.MIN_VALUE, -1, 10, Integer.MAX_VALUE}) {
            Check.refusedOf("done(" + v + ", 0, 1)", EdgeStateTest::plain, Check.IAE, x -> x.done(v, 0, 1));
            Check.refusedOf("done(" + v + ", 2, 1)", EdgeStateTest::plain, Check.NSE, x -> x.done(v, 2, 1));
        }
        for (int v : new int[] {Integer.MIN_VALUE, -1, 0, 25, Integer.MAX_VALUE}) {
            Check.refusedOf("done(0, 0, " + v + ")", EdgeStateTest::plain, Check.IAE, x -> x.done(0, 0, v));
            Check.refusedOf("done(0, -1, " + v + ")", EdgeStateTest::plain, Check.NSE, x -> x.done(0, -1, v));
        }
        for (int w : new int[] {Integer.MIN_VALUE, -1, 2, Integer.MAX_VALUE}) {
            Check.refusedOf("done(0, " + w + ", 1)", EdgeStateTest::plain, Check.NSE, x -> x.done(0, w, 1));
        }
    }

    private static void undo() {
        Check.edge(17, "n DEEDS OF STATE are UNDONE: how many still can be.");
        for (int n = 1; n <= 10; n++) {
            DegreeLaws x = new DegreeLaws();
            for (int i = 1; i <= 12; i++) {
                x.hours(i);
            }
            Check.due("undo(" + n + ")", x.undo(n), 10 - n);
            Check.due("count(7)", x.count(7), 10 - n);
            int left = 12 - n;
            Check.due("HOUR", x.count(4), left * (left + 1) / 2);
            // what is done then can be UNDONE too, and what was left below it
            x.hours(50);
            Check.due("one more", x.count(7), 11 - n);
            Check.due("UNDONE", x.undo(1), 10 - n);
            Check.due("HOUR", x.count(4), left * (left + 1) / 2);
        }
        DegreeLaws span = Check.landOf("ward 5;act 1 from 0 to 9 fine 1;prevails:span=9;");
        Check.due("IN FORCE by its span", span.code(0, 0), 1);
        Check.due("amended", span.amend(0, 0, 8), 0);
        span.undo(1);
        Check.due("IN FORCE again", span.code(0, 0), 1);
    }

    private static DegreeLaws withDeeds(int many) {
        DegreeLaws x = Check.landOf("ward 5;act 1 from 0 to 9 fine 1;");
        for (int i = 0; i < many; i++) {
            x.done(1, 0, 1 + i);
        }
        return x;
    }

    private static void undoBounds() {
        Check.edge(17, "IllegalArgumentException: n isn't 1 to 10, there aren't so many.");
        for (int many = 0; many <= 13; many++) {
            int made = many;
            int can = Math.min(10, many);
            for (int n : new int[] {Integer.MIN_VALUE, -1, 0, can + 1, 11, Integer.MAX_VALUE}) {
                Check.refusedOf("undo(" + n + ") of " + many, () -> withDeeds(made), Check.IAE, x -> x.undo(n));
            }
            if (can > 0) {
                Check.due("undo(" + can + ") of " + many, withDeeds(many).undo(can), 0);
                Check.due("undo(1) of " + many, withDeeds(many).undo(1), can - 1);
            }
        }
    }

    private static DegreeLaws told(long... numbers) {
        DegreeLaws x = Check.landOf(PLAIN);
        Check.trayOf(x, 1, numbers);
        return x;
    }

    private static void judged(DegreeLaws x, int place, int why, int hour, int paid) {
        String ahead = Check.sketch(x);
        Check.due("judge(1, 0)", x.judge(1, 0), place);
        Check.due("judge(1, 1)", x.judge(1, 1), why);
        Check.due("judge(1, 2)", x.judge(1, 2), hour);
        Check.due("judge(1, 3)", x.judge(1, 3), paid);
        Check.due("nothing is done", Check.sketch(x).equals(ahead) ? 1 : 0, 1);
    }

    private static void judgePlaces() {
        Check.edge(18, "TOLD ONES, judged as if done, what 0: the first place that can't be (NONE), 1: why (0)");
        judged(told(), -1, 0, 6, 0);
        judged(told(-1), -1, 0, 7, 0);
        judged(told(0), 0, 1, 6, 0);
        judged(told(40000, 40000, 40009), 1, 2, 6, 0);
        judged(told(40009, 40000, 40000), 0, 1, 6, 0);
        judged(told(-1, 1001, 25, -1), 2, 1, 8, 5);
        long[] full = new long[30];
        java.util.Arrays.fill(full, -1);
        judged(told(full), -1, 0, 36, 0);
        full[29] = -2;
        judged(told(full), 29, 1, 35, 0);
        full[0] = 500;
        judged(told(full), 0, 1, 6, 0);
        DegreeLaws x = told(40002);
        x.repeal(2);
        judged(x, 0, 2, 6, 0);
    }

    private static void judgeThen() {
        Check.edge(18, "2: HOUR then, 3: PAID then");
        // 5 in ward 0; in ward 1, which is 20, 5 and 7; with fire of 10 there 30, likewise; with 11 of it 7 alone
        judged(told(1024), -1, 0, 30, 5);
        judged(told(1101), -1, 0, 7, 12);
        judged(told(20110, 1101), -1, 0, 7, 12);
        judged(told(20111, 1101), -1, 0, 7, 7);
        // fire for 6 hours: the deed in its last hour, and an hour later
        judged(told(20111, 10, 1101), -1, 0, 17, 12);
        judged(told(20111, 5, 1101), -1, 0, 12, 7);
        judged(told(20111, 6, 1101), -1, 0, 13, 12);
        judged(told(30111, 1101), -1, 0, 7, 0);
        judged(told(40000, 1101), -1, 0, 7, 7);
        judged(told(40000, 40001, 1101, 2101), -1, 0, 8, 9);
        // what was paid ahead counts too
        DegreeLaws x = told(1001, 1001);
        x.done(1, 1, 2);
        judged(x, -1, 0, 10, 12 + 10);
        x.perform(1);
        judged(x, -1, 0, 12, 12 + 20);
    }

    private static void judgeBounds() {
        Check.edge(18, "NoSuchElementException: no such TRAY (as below); IllegalStateException: it is MISSING (as below); "
            + "IllegalArgumentException: another what.");
        for (int what : new int[] {Integer.MIN_VALUE, -1, 4, 10, Integer.MAX_VALUE}) {
            Check.refusedOf("judge(2, " + what + ")", EdgeStateTest::plain, Check.IAE, x -> x.judge(2, what));
            Check.refusedOf("judge(3, " + what + ")", EdgeStateTest::plain, Check.ISE, x -> x.judge(3, what));
            Check.refusedOf("judge(4, " + what + ")", EdgeStateTest::plain, Check.NSE, x -> x.judge(4, what));
        }
        for (int t : OUT) {
            Check.refusedOf("judge(" + t + ", 0)", EdgeStateTest::plain, Check.NSE, x -> x.judge(t, 0));
        }
        Check.refusedOf("judge(3, 0)", EdgeStateTest::plain, Check.ISE, x -> x.judge(3, 0));
        Check.due("judge(2, 3)", Check.thrownBy(() -> plain().judge(2, 3)), 0);
    }

    private static void perform() {
        Check.edge(19, "They are done (each a DEED OF STATE), till one can't be: how many were.");
        DegreeLaws none = told();
        Check.due("of none", none.perform(1), 0);
        Check.due("no DEED OF STATE", none.count(7), 0);
        DegreeLaws first = told(25, -1);
        Check.due("the first can't be", first.perform(1), 0);
        Check.due("nothing is done", first.count(4), 6);
        DegreeLaws some = told(-1, 1101, 40001, 40001, -1);
        Check.due("till one can't be", some.perform(1), 3);
        Check.due("HOUR", some.count(4), 8);
        Check.due("PAID", some.count(5), 12);
        Check.due("each a DEED OF STATE", some.count(7), 3);
        Check.due("one of them UNDONE", some.undo(1), 2);
        Check.due("not repealed", some.act(1, 4), 0);
        Check.due("PAID still", some.count(5), 12);
        some.undo(1);
        Check.due("PAID no more", some.count(5), 0);
        Check.due("HOUR", some.count(4), 7);
        long[] full = new long[30];
        for (int i = 0; i < 30; i++) {
            full[i] = 1 + i % 24;
        }
        DegreeLaws all = told(full);
        Check.due("all 30", all.perform(1), 30);
        Check.due("HOUR", all.count(4), 6 + 300 + 21);
        Check.due("ten can be UNDONE", all.count(7), 10);
        all.undo(10);
        // the last ten: 21, 22, 23, 24 and 1 to 6
        Check.due("HOUR", all.count(4), 327 - 90 - 21);
        // the numbers stay: once more
        Check.due("once more", all.perform(1), 30);
    }

    private static void performBounds() {
        Check.edge(19, "They are done");
        for (int t : new int[] {Integer.MIN_VALUE, -1, 4, Integer.MAX_VALUE}) {
            Check.refusedOf("perform(" + t + ")", EdgeStateTest::plain, Check.NSE, x -> x.perform(t));
        }
        for (int t : new int[] {0, 1, 3}) {
            Check.refusedOf("perform(" + t + ")", EdgeStateTest::plain, Check.ISE, x -> x.perform(t));
        }
        DegreeLaws x = Check.landOf("hour 1;");
        Check.trayOf(x, 0, -1, 1, -1);
        Check.due("without WARDS", x.perform(0), 1);
    }

    private static void season() {
        Check.edge(20, "A SEASON (each a DEED OF STATE): how many could be.");
        for (int times = 1; times <= 30; times++) {
            DegreeLaws x = Check.landOf(PLAIN);
            Check.due("season(7, " + times + ")", x.season(7, times), times);
            Check.due("each a DEED OF STATE", x.count(7), Math.min(10, times));
            String all = Check.sketch(x);
            x.undo(1);
            DegreeLaws y = Check.landOf(PLAIN);
            if (times > 1) {
                y.season(7, times - 1);
            }
            String less = Check.sketch(y).replaceFirst(".*\n", "");
            Check.due("the last one UNDONE", Check.sketch(x).replaceFirst(".*\n", "").equals(less) ? 1 : 0, 1);
            DegreeLaws z = Check.landOf(PLAIN);
            z.season(7, times);
            Check.due("the same calls give the same", Check.sketch(z).equals(all) ? 1 : 0, 1);
        }
        // the first draw of seed 0 is 0, of seed 1 it is 16838, which is 3 modulo 5
        DegreeLaws hour = new DegreeLaws();
        Check.due("season(0, 1)", hour.season(0, 1), 1);
        Check.due("an HOUR", hour.count(4), 1);
        DegreeLaws none = new DegreeLaws();
        Check.due("season(1, 1) without WARDS", none.season(1, 1), 0);
        Check.due("none could be", none.count(7), 0);
        // 16838, 38526, 10113: ICE in WARD 38526 modulo 2 of 10113 modulo 61
        DegreeLaws ice = Check.landOf(PLAIN);
        Check.due("season(1, 1)", ice.season(1, 1), 1);
        Check.due("ICE in WARD 0", ice.ward(0, 3), 48);
        Check.due("for 6 HOURS", ice.ward(0, 5), 6);
        Check.edge(20, "IllegalArgumentException: how many times.");
        for (int times : new int[] {Integer.MIN_VALUE, -1, 0, 31, Integer.MAX_VALUE}) {
            Check.refusedOf("season(1, " + times + ")", EdgeStateTest::plain, Check.IAE, x -> x.season(1, times));
            Check.refusedOf("season(1, " + times + ") without WARDS", DegreeLaws::new, Check.IAE, x -> x.season(1, times));
        }
    }
}
