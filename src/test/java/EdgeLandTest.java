/** Edges of promises 1 to 10: the land. */
public final class EdgeLandTest {
    private static final int[] EXTREMES = {Integer.MIN_VALUE, -1, Integer.MAX_VALUE};
    // two wards, three acts; kind 1 is barred where it is 10 to 30
    private static final String PLAIN = "ward 10;ward 20 beside 0;act 1 from 10 to 30 fine 5;act 1 from 15 to 40 fine 7;"
        + "act 2 from 20 to 99 fine 9;hour 6;";

    public static void main(String[] args) {
        newObject();
        feed();
        feedOrder();
        feedFull();
        land();
        landAnew();
        landOfFaults();
        landBounds();
        fault();
        ward();
        wardHours();
        act();
        degree();
        code();
        fine();
        fineBounds();
        lawful();
        Check.end();
    }

    /** All kinds of state, something on the tape, a fault, an image, trays. */
    private static DegreeLaws lived() {
        DegreeLaws x = new DegreeLaws();
        Check.landText(x, "ward 100;");
        x.feed(1, 2, 3, 4, 5);
        Check.due("a fault", x.land(20), -11);
        Check.landText(x, PLAIN);
        x.image(1);
        x.fire(0, 15, 40);
        x.ice(1, 5, 40);
        x.amend(2, 1, 98);
        x.repeal(1);
        x.hours(2);
        x.done(1, 0, 3);
        Check.trayOf(x, 2, 1003, -1, 20010);
        return x;
    }

    private static void newObject() {
        Check.edge(1, "No WARDS, no ACTS; TRAYS are MISSING; an empty tape.");
        for (int what = 0; what <= 8; what++) {
            Check.due("count(" + what + ")", new DegreeLaws().count(what), 0);
        }
        for (int t = 0; t < 4; t++) {
            int tray = t;
            Check.refusedOf("judge(" + t + ", 0)", DegreeLaws::new, Check.ISE, x -> x.judge(tray, 0));
            Check.refusedOf("write(" + t + ", 0, 1)", DegreeLaws::new, Check.ISE, x -> x.write(tray, 0, 1));
        }
        Check.refusedOf("ward(0, 0)", DegreeLaws::new, Check.NSE, x -> x.ward(0, 0));
        Check.refusedOf("degree(0, 0)", DegreeLaws::new, Check.NSE, x -> x.degree(0, 0));
        Check.refusedOf("act(0, 0)", DegreeLaws::new, Check.NSE, x -> x.act(0, 0));
        Check.refusedOf("repeal(0)", DegreeLaws::new, Check.NSE, x -> x.repeal(0));
        Check.refusedOf("undo(1)", DegreeLaws::new, Check.IAE, x -> x.undo(1));
        Check.refusedOf("land(1)", DegreeLaws::new, Check.IAE, x -> x.land(1));
        Check.due("land(0)", new DegreeLaws().land(0), 0);
        Check.due("where(0, 1)", new DegreeLaws().where(0, 1), -1);
        Check.due("alwaysBarred()", new DegreeLaws().alwaysBarred(), 0);
        Check.due("strictest()", new DegreeLaws().strictest(), 0);
        Check.due("NONE", DegreeLaws.NONE, -1);
    }

    private static int word(String four) {
        return four.charAt(0) << 24 | four.charAt(1) << 16 | four.charAt(2) << 8 | four.charAt(3);
    }

    private static int feed(DegreeLaws x, String twenty) {
        return x.feed(word(twenty.substring(0, 4)), word(twenty.substring(4, 8)), word(twenty.substring(8, 12)),
            word(twenty.substring(12, 16)), word(twenty.substring(16, 20)));
    }

    private static void feed() {
        Check.edge(2, "Twenty bytes come behind those on the tape, the highest of each int first: how many it has");
        DegreeLaws x = new DegreeLaws();
        Check.due("feed", feed(x, "ward 98;hour 765;beg"), 20);
        Check.due("count(8)", x.count(8), 20);
        Check.due("feed", feed(x, "un;whole;hour 12    "), 40);
        Check.due("feed", feed(x, " \n 3;hour 4  5;     "), 60);
        Check.due("count(8)", x.count(8), 60);
        Check.due("land(26)", x.land(29), 4);
        Check.due("BASE", x.ward(0, 0), 98);
        Check.due("HOUR", x.count(4), 765);
        Check.due("whole", x.count(6), 1);
        feed(x, "                hour");
        feed(x, " 123; hour 4  5;    ");
        Check.due("behind one another", x.land(25), 1);
        Check.due("HOUR", x.count(4), 123);
    }

    private static void feedOrder() {
        Check.edge(2, "the highest of each int first");
        for (int at = 0; at < 20; at++) {
            for (int shift = 0; shift < 2; shift++) {
                StringBuilder b = new StringBuilder(" ".repeat(20));
                // a sign of 128 and more makes the int below 0
                b.setCharAt(at, shift == 0 ? '?' : (char) 255);
                DegreeLaws x = new DegreeLaws();
                feed(x, b.toString());
                Check.due("land", x.land(20), -11);
                Check.due("its place", x.fault(1), at);
                feed(x, b.toString());
                Check.due("ahead of it", x.land(at), 0);
            }
        }
    }

    private static void feedFull() {
        Check.edge(2, "NONE, and nothing changes, if there would be more than 900.");
        DegreeLaws x = new DegreeLaws();
        for (int i = 1; i <= 44; i++) {
            feed(x, " ".repeat(20));
        }
        Check.due("count(8)", x.count(8), 880);
        Check.due("just 900", feed(x, "   hour 77;whole;???"), 900);
        for (int i = 0; i < 3; i++) {
            Check.due("more than 900", feed(x, "?".repeat(20)), -1);
            Check.due("count(8)", x.count(8), 900);
        }
        Check.due("land(897)", x.land(897), 2);
        Check.due("HOUR", x.count(4), 77);
        Check.due("an empty tape again", feed(x, " ".repeat(20)), 20);
        DegreeLaws y = new DegreeLaws();
        for (int i = 0; i < 46; i++) {
            feed(y, i < 45 ? " ".repeat(20) : "?".repeat(20));
        }
        Check.due("900 blanks", y.land(900), 0);
    }

    private static void land() {
        Check.edge(3, "The first n bytes of the tape (which is empty then) are THE LAND");
        String text = "ward 7;ward 8;hour 9;hour 10;whole;";
        int[] ends = {0, 7, 14, 21, 29, 35};
        for (int lines = 0; lines <= 5; lines++) {
            DegreeLaws x = new DegreeLaws();
            Check.feedText(x, text);
            Check.due("land(" + ends[lines] + ")", x.land(ends[lines]), lines);
            Check.due("LINES", x.count(0), lines);
            Check.due("the tape is empty", x.count(8), 0);
            Check.due("WARDS", x.count(1), Math.min(2, lines));
            Check.due("HOUR", x.count(4), lines < 3 ? 0 : lines < 4 ? 9 : 10);
            Check.due("measured", x.count(6), lines < 5 ? 0 : 1);
            Check.due("nothing is left of it", Check.thrownBy(() -> x.land(1)), Check.IAE);
            Check.due("a new tape", x.feed(0, 0, 0, 0, 0), 20);
        }
        DegreeLaws none = Check.landOf(PLAIN);
        none.feed(0, 0, 0, 0, 0);
        Check.due("land(0)", none.land(0), 0);
        Check.due("no WARDS", none.count(1), 0);
        Check.due("no ACTS", none.count(2), 0);
        Check.due("the tape is empty", none.count(8), 0);
    }

    private static void landAnew() {
        Check.edge(3, "PAID 0, no FIRE, no ICE, none UNDONE: how many LINES");
        DegreeLaws x = lived();
        Check.due("PAID ahead", x.count(5), 5);
        Check.due("land", Check.landText(x, PLAIN), 6);
        Check.due("LINES", x.count(0), 6);
        Check.due("HOUR", x.count(4), 6);
        Check.due("PAID", x.count(5), 0);
        Check.due("none UNDONE", x.count(7), 0);
        Check.due("undo(1)", Check.thrownBy(() -> x.undo(1)), Check.IAE);
        for (int w = 0; w < 2; w++) {
            for (int what = 2; what <= 5; what++) {
                Check.due("no FIRE, no ICE: ward(" + w + ", " + what + ")", x.ward(w, what), 0);
            }
        }
        Check.due("not amended", x.act(2, 1), 20);
        Check.due("not repealed", x.act(1, 4), 0);
        Check.due("all are left", x.count(3), 3);
        Check.due("TRAYS stay", x.judge(2, 0), -1);
        x.restore(1);
        Check.due("IMAGES stay", x.count(4), 6);
    }

    private static void landOfFaults() {
        Check.edge(3, "-10 less the FAULT (all else stays)");
        String[] texts = {"hour 1;?", "hour 1;;", "ward 1;ward 100;", "degree:(((((((1)))))));"};
        int[] places = {7, 7, 12, 13};
        for (int kind = 1; kind <= 4; kind++) {
            DegreeLaws x = lived();
            DegreeLaws y = lived();
            Check.due("land", Check.landText(x, texts[kind - 1]), -10 - kind);
            Check.due("the FAULT", x.fault(0), kind);
            Check.due("its place", x.fault(1), places[kind - 1]);
            Check.due("the tape is empty", x.count(8), 0);
            // the first row of a sketch has the tape and the fault
            Check.due("all else stays", Check.sketch(x).replaceFirst(".*\n", "").equals(
                Check.sketch(y).replaceFirst(".*\n", "")) ? 1 : 0, 1);
            for (int what = 0; what <= 7; what++) {
                Check.due("count(" + what + ")", x.count(what), y.count(what));
            }
            Check.landText(y, texts[kind - 1]);
            Check.due("all else stays", Check.spend(x).equals(Check.spend(y)) ? 1 : 0, 1);
            DegreeLaws z = lived();
            Check.landText(z, texts[kind - 1]);
            Check.due("it can be UNDONE still", z.undo(6), 0);
            Check.due("HOUR", z.count(4), 6);
        }
    }

    private static void landBounds() {
        Check.edge(3, "IllegalArgumentException: n is below 0 or above what it has.");
        Check.Maker maker = () -> {
            DegreeLaws x = lived();
            feed(x, "ward 1;hour 700;    ");
            return x;
        };
        for (int n : new int[] {Integer.MIN_VALUE, -1, 21, 900, Integer.MAX_VALUE}) {
            Check.refusedOf("land(" + n + ")", maker, Check.IAE, x -> x.land(n));
        }
        Check.due("land(20)", maker.make().land(20), 2);
        Check.due("land(16)", maker.make().land(16), 2);
        Check.due("land(0)", maker.make().land(0), 0);
        Check.refusedOf("land(1) of an empty tape", EdgeLandTest::lived, Check.IAE, x -> x.land(1));
    }

    private static void fault() {
        Check.edge(4, "Of the latest land() that threw nothing, what 0: the FAULT (0 without, and at first), 1: its place (NONE without)");
        DegreeLaws x = new DegreeLaws();
        Check.due("at first", x.fault(0), 0);
        Check.due("at first", x.fault(1), -1);
        Check.landText(x, "?");
        Check.due("the FAULT", x.fault(0), 1);
        Check.due("place 0", x.fault(1), 0);
        Check.due("land(1)", Check.thrownBy(() -> x.land(1)), Check.IAE);
        Check.due("that land() threw", x.fault(0), 1);
        Check.due("that land() threw", x.fault(1), 0);
        Check.landText(x, "ward 1");
        Check.due("the latest", x.fault(0), 2);
        Check.due("the latest", x.fault(1), 6);
        Check.landText(x, "ward 1;");
        Check.due("without", x.fault(0), 0);
        Check.due("without", x.fault(1), -1);
        Check.due("land(-1)", Check.thrownBy(() -> x.land(-1)), Check.IAE);
        Check.due("without still", x.fault(1), -1);
        Check.landText(x, "ward 1;ward 100;");
        Check.due("the latest", x.fault(0), 3);
        Check.due("land(0)", x.land(0), 0);
        Check.due("without", x.fault(0), 0);
        Check.edge(4, "NONE for others.");
        Check.landText(x, "?");
        for (int what : new int[] {Integer.MIN_VALUE, -2, -1, 2, 3, Integer.MAX_VALUE}) {
            Check.due("fault(" + what + ")", x.fault(what), -1);
        }
    }

    private static void ward() {
        Check.edge(5, "Of a WARD, what 0: BASE, 1: WARDS beside it, as bits, 2: FIRE now, 3: ICE now");
        DegreeLaws x = Check.landOf("ward 0;ward 99 beside 0;ward 1;ward 2 beside 0 1 2;ward 3 beside 3;");
        int[] base = {0, 99, 1, 2, 3};
        int[] beside = {2 | 8, 1 | 8, 8, 1 | 2 | 4 | 16, 8};
        for (int w = 0; w < 5; w++) {
            Check.due("BASE", x.ward(w, 0), base[w]);
            Check.due("beside", x.ward(w, 1), beside[w]);
            Check.due("FIRE", x.ward(w, 2), 0);
            Check.due("ICE", x.ward(w, 3), 0);
        }
        Check.edge(5, "NoSuchElementException: no such WARD (as everywhere); IllegalArgumentException: another what.");
        for (int what : new int[] {Integer.MIN_VALUE, -1, 6, Integer.MAX_VALUE}) {
            Check.refusedOf("ward(0, " + what + ")", EdgeLandTest::lived, Check.IAE, y -> y.ward(0, what));
            Check.refusedOf("ward(2, " + what + ")", EdgeLandTest::lived, Check.NSE, y -> y.ward(2, what));
        }
        for (int w : new int[] {Integer.MIN_VALUE, -1, 2, 5, 32, Integer.MAX_VALUE}) {
            Check.refusedOf("ward(" + w + ", 0)", EdgeLandTest::lived, Check.NSE, y -> y.ward(w, 0));
        }
    }

    private static void wardHours() {
        Check.edge(5, "4: for how many HOURS FIRE is there still, 5: ICE (this one counted; 0: none)");
        DegreeLaws x = Check.landOf(PLAIN);
        Check.due("none", x.ward(0, 4), 0);
        Check.due("none", x.ward(0, 5), 0);
        x.fire(0, 3, 1);
        x.ice(0, 4, 99);
        Check.due("this one counted", x.ward(0, 4), 1);
        Check.due("this one counted", x.ward(0, 5), 99);
        x.hours(1);
        Check.due("none", x.ward(0, 4), 0);
        Check.due("none now", x.ward(0, 2), 0);
        Check.due("ICE", x.ward(0, 5), 98);
        x.hours(97);
        Check.due("the last HOUR", x.ward(0, 5), 1);
        Check.due("ICE now", x.ward(0, 3), 4);
        x.hours(1);
        Check.due("none", x.ward(0, 5), 0);
        Check.due("none now", x.ward(0, 3), 0);
        x.hours(99);
        Check.due("not below 0", x.ward(0, 5), 0);
        x.fire(1, 60, 7);
        x.fire(1, 0, 7);
        Check.due("none is left", x.ward(1, 4), 0);
        x.undo(1);
        Check.due("as it was", x.ward(1, 4), 7);
    }

    private static void act() {
        Check.edge(6, "Of an ACT, what 0: KIND, 1: first DEGREE, 2: second, 3: FINE, 4: 1 if repealed, else 0.");
        DegreeLaws x = Check.landOf("act 9 from 0 to 99 fine 99;act 0 from 5 to 6 fine 0;");
        int[][] want = {{9, 0, 99, 99, 0}, {0, 5, 6, 0, 0}};
        for (int i = 0; i < 10; i++) {
            Check.due("act(" + i / 5 + ", " + i % 5 + ")", x.act(i / 5, i % 5), want[i / 5][i % 5]);
        }
        x.amend(1, 7, 70);
        x.repeal(1);
        Check.due("amended", x.act(1, 1), 7);
        Check.due("amended", x.act(1, 2), 70);
        Check.due("repealed", x.act(1, 4), 1);
        Check.due("the other isn't", x.act(0, 4), 0);
        x.undo(1);
        Check.due("no more", x.act(1, 4), 0);
        x.undo(1);
        Check.due("as told", x.act(1, 2), 6);
        Check.edge(6, "NoSuchElementException: no such ACT (as everywhere); IllegalArgumentException: another what.");
        for (int what : new int[] {Integer.MIN_VALUE, -1, 5, Integer.MAX_VALUE}) {
            Check.refusedOf("act(0, " + what + ")", EdgeLandTest::lived, Check.IAE, y -> y.act(0, what));
            Check.refusedOf("act(3, " + what + ")", EdgeLandTest::lived, Check.NSE, y -> y.act(3, what));
        }
        for (int a : new int[] {Integer.MIN_VALUE, -1, 3, 8, 32, Integer.MAX_VALUE}) {
            Check.refusedOf("act(" + a + ", 0)", EdgeLandTest::lived, Check.NSE, y -> y.act(a, 0));
        }
    }

    private static void degree() {
        Check.edge(7, "DEGREE of a WARD in n HOURS (0 to 999). IllegalArgumentException: n.");
        DegreeLaws x = Check.landOf("ward 1;ward 2;degree:hour+ward*50;hour 999;");
        Check.due("degree(0, 0)", x.degree(0, 0), 15);
        Check.due("degree(1, 0)", x.degree(1, 0), 65);
        Check.due("degree(0, 999)", x.degree(0, 999), 6);
        for (int n : new int[] {Integer.MIN_VALUE, -1, 1000, Integer.MAX_VALUE}) {
            Check.refusedOf("degree(0, " + n + ")", EdgeLandTest::lived, Check.IAE, y -> y.degree(0, n));
            Check.refusedOf("degree(2, " + n + ")", EdgeLandTest::lived, Check.NSE, y -> y.degree(2, n));
        }
        for (int w : new int[] {Integer.MIN_VALUE, -1, 2, Integer.MAX_VALUE}) {
            Check.refusedOf("degree(" + w + ", 0)", EdgeLandTest::lived, Check.NSE, y -> y.degree(w, 0));
        }
    }

    private static void code() {
        Check.edge(8, "ACTS IN FORCE in a WARD in n HOURS (0 to 999), as bits. IllegalArgumentException: n.");
        DegreeLaws x = Check.landOf("ward 5;degree:hour;" + "act 3 from 0 to 15 fine 1;".repeat(7) + "act 2 from 15 to 15 fine 1;");
        Check.due("code(0, 0)", x.code(0, 0), 127);
        Check.due("code(0, 999)", x.code(0, 999), 255);
        Check.due("code(0, 16)", x.code(0, 16), 0);
        Check.due("without ACTS", Check.landOf("ward 5;").code(0, 0), 0);
        for (int n : new int[] {Integer.MIN_VALUE, -1, 1000, Integer.MAX_VALUE}) {
            Check.refusedOf("code(0, " + n + ")", EdgeLandTest::lived, Check.IAE, y -> y.code(0, n));
            Check.refusedOf("code(2, " + n + ")", EdgeLandTest::lived, Check.NSE, y -> y.code(2, n));
        }
        for (int w : new int[] {Integer.MIN_VALUE, -1, 2, Integer.MAX_VALUE}) {
            Check.refusedOf("code(" + w + ", 0)", EdgeLandTest::lived, Check.NSE, y -> y.code(w, 0));
        }
    }

    // HOURS 1008 to 1031 are of day 42, and then alone kind 1 is barred
    private static final String DAY_42 = "ward 5;act 1 from 42 to 42 fine 3;degree:day;";

    private static void fine() {
        Check.edge(9, "What a DEED of a KIND in a WARD begun in n HOURS (0 to 999) that lasts so long is FINED.");
        DegreeLaws x = Check.landOf(DAY_42 + "whole;");
        Check.due("till HOUR 1007", x.fine(1, 0, 999, 9), 0);
        Check.due("till HOUR 1008", x.fine(1, 0, 999, 10), 3);
        Check.due("till HOUR 1022", x.fine(1, 0, 999, 24), 45);
        Check.due("in 0", x.fine(1, 0, 0, 24), 0);
        Check.due("begun", Check.landOf(DAY_42 + "hour 9;").fine(1, 0, 999, 24), 3);
        Check.due("begun", Check.landOf(DAY_42 + "hour 8;").fine(1, 0, 999, 24), 0);
        DegreeLaws most = Check.landOf("ward 5;" + "act 0 from 0 to 9 fine 99;".repeat(8) + "whole;");
        Check.due("most", most.fine(0, 0, 0, 24), 792 * 24);
        Check.due("KIND 9", most.fine(9, 0, 0, 24), 0);
        Check.due("KIND 9", Check.landOf("ward 5;act 9 from 0 to 9 fine 4;").fine(9, 0, 0, 1), 4);
    }

    private static void fineBounds() {
        Check.edge(9, "IllegalArgumentException: the KIND isn't 0 to 9, n, it doesn't last 1 to 24 (as everywhere).");
        for (int v : new int[] {Integer.MIN_VALUE, -1, 10, 32, Integer.MAX_VALUE}) {
            Check.refusedOf("fine(" + v + ", 0, 0, 1)", EdgeLandTest::lived, Check.IAE, x -> x.fine(v, 0, 0, 1));
            Check.refusedOf("fine(" + v + ", 2, 0, 1)", EdgeLandTest::lived, Check.NSE, x -> x.fine(v, 2, 0, 1));
        }
        for (int v : new int[] {Integer.MIN_VALUE, -1, 1000, Integer.MAX_VALUE}) {
            Check.refusedOf("fine(0, 0, " + v + ", 1)", EdgeLandTest::lived, Check.IAE, x -> x.fine(0, 0, v, 1));
            Check.refusedOf("fine(0, -1, " + v + ", 1)", EdgeLandTest::lived, Check.NSE, x -> x.fine(0, -1, v, 1));
        }
        for (int v : new int[] {Integer.MIN_VALUE, -1, 0, 25, Integer.MAX_VALUE}) {
            Check.refusedOf("fine(0, 0, 0, " + v + ")", EdgeLandTest::lived, Check.IAE, x -> x.fine(0, 0, 0, v));
            Check.refusedOf("fine(0, 2, 0, " + v + ")", EdgeLandTest::lived, Check.NSE, x -> x.fine(0, 2, 0, v));
        }
        for (int w : EXTREMES) {
            Check.refusedOf("fine(0, " + w + ", 0, 1)", EdgeLandTest::lived, Check.NSE, x -> x.fine(0, w, 0, 1));
        }
        Check.due("the last of each", Check.thrownBy(() -> lived().fine(9, 1, 999, 24)), 0);
        Check.due("the first of each", Check.thrownBy(() -> lived().fine(0, 0, 0, 1)), 0);
    }

    private static int asInt(boolean b) {
        return b ? 1 : 0;
    }

    private static void lawful() {
        Check.edge(10, "Whether it is LAWFUL.");
        DegreeLaws x = Check.landOf(DAY_42 + "whole;");
        Check.due("till HOUR 1007", asInt(x.lawful(1, 0, 999, 9)), 1);
        Check.due("till HOUR 1008", asInt(x.lawful(1, 0, 999, 10)), 0);
        Check.due("begun", asInt(Check.landOf(DAY_42 + "hour 9;").lawful(1, 0, 999, 1)), 0);
        Check.due("begun", asInt(Check.landOf(DAY_42 + "hour 8;").lawful(1, 0, 999, 24)), 1);
        Check.due("BARRED at FINE 0", asInt(Check.landOf("ward 5;act 0 from 5 to 5 fine 0;").lawful(0, 0, 0, 1)), 0);
        for (int v : new int[] {Integer.MIN_VALUE, -1, 10, Integer.MAX_VALUE}) {
            Check.refusedOf("lawful(" + v + ", 0, 0, 1)", EdgeLandTest::lived, Check.IAE, y -> asInt(y.lawful(v, 0, 0, 1)));
            Check.refusedOf("lawful(" + v + ", 2, 0, 1)", EdgeLandTest::lived, Check.NSE, y -> asInt(y.lawful(v, 2, 0, 1)));
        }
        for (int v : new int[] {Integer.MIN_VALUE, -1, 1000, Integer.MAX_VALUE}) {
            Check.refusedOf("lawful(0, 0, " + v + ", 1)", EdgeLandTest::lived, Check.IAE, y -> asInt(y.lawful(0, 0, v, 1)));
            Check.refusedOf("lawful(0, -1, " + v + ", 1)", EdgeLandTest::lived, Check.NSE, y -> asInt(y.lawful(0, -1, v, 1)));
        }
        for (int v : new int[] {Integer.MIN_VALUE, -1, 0, 25, Integer.MAX_VALUE}) {
            Check.refusedOf("lawful(0, 0, 0, " + v + ")", EdgeLandTest::lived, Check.IAE, y -> asInt(y.lawful(0, 0, 0, v)));
            Check.refusedOf("lawful(0, 2, 0, " + v + ")", EdgeLandTest::lived, Check.NSE, y -> asInt(y.lawful(0, 2, 0, v)));
        }
    }
}
