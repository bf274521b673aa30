/**
 * Which of several throws of a call comes, and that it changes nothing then: each call with all its arguments at, below
 * and above their bounds, in all combinations.
 */
public final class EdgeThrowsTest {
    private static final int NSE = Check.NSE;
    private static final int ISE = Check.ISE;
    private static final int IAE = Check.IAE;
    private static final int IOOBE = Check.IOOBE;

    private static final int LOW = Integer.MIN_VALUE;
    private static final int HIGH = Integer.MAX_VALUE;
    // there are two wards and two acts
    private static final int[] TWO = {LOW, -1, 0, 1, 2, HIGH};
    private static final int[] KINDS = {LOW, -1, 0, 9, 10, HIGH};
    private static final int[] LASTS = {LOW, 0, 1, 24, 25, HIGH};
    private static final int[] AHEAD = {LOW, -1, 0, 999, 1000, HIGH};
    private static final int[] SOUGHT = {LOW, 0, 1, 200, 201, HIGH};
    // 0 is missing, 1 has two numbers, 2 has thirty, 3 has one
    private static final int[] TRAYS = {LOW, -1, 0, 1, 2, 3, 4, HIGH};
    private static final int[] DEGREES = {LOW, -1, 0, 50, 51, 99, 100, HIGH};

    private interface Asked {
        long go(DegreeLaws x, int[] a);
    }

    private interface Told {
        int thrown(int[] a);
    }

    private static final String UNTOUCHED = Check.spend(lived());

    public static void main(String[] args) {
        ofTheLand();
        ofDeeds();
        ofDeedsOfState();
        ofTold();
        ofHoursToCome();
        ofActs();
        ofWays();
        ofErrands();
        ofThermometers();
        ofTraysAndImages();
        toldFirst();
        Check.end();
    }

    private static DegreeLaws lived() {
        DegreeLaws x = new DegreeLaws();
        Check.landText(x, "ward 100;");
        Check.landText(x, "ward 10;ward 20 beside 0;act 1 from 10 to 30 fine 5;act 2 from 20 to 99 fine 9;hour 46;");
        x.image(1);
        x.fire(0, 15, 40);
        x.repeal(1);
        x.done(1, 0, 3);
        Check.trayOf(x, 1, 1, 101);
        x.tray(2, 0, 30);
        Check.trayOf(x, 3, -1);
        Check.feedText(x, "hour 7;ward 5;");
        return x;
    }

    private static void grid(int promise, String words, int[][] values, Told told, Asked asked) {
        Check.edge(promise, words);
        int[] at = new int[values.length];
        boolean more = true;
        while (more) {
            int[] a = new int[values.length];
            for (int i = 0; i < a.length; i++) {
                a[i] = values[i][at[i]];
            }
            one(java.util.Arrays.toString(a), told.thrown(a), a, asked);
            int i = 0;
            while (i < at.length && ++at[i] == values[i].length) {
                at[i++] = 0;
            }
            more = i < at.length;
        }
    }

    private static void one(String what, int want, int[] a, Asked asked) {
        DegreeLaws x = lived();
        Check.due(what + " throws (1 NoSuchElement, 2 IllegalState, 3 IllegalArgument, 4 IndexOutOfBounds)",
            Check.thrownBy(() -> asked.go(x, a)), want);
        if (want != 0) {
            Check.due(what + " changes something", Check.spend(x).equals(UNTOUCHED) ? 0 : 1, 0);
        }
    }

    /** What is thrown if v isn't from least to most. */
    private static int out(int v, int least, int most, int thrown) {
        return v < least || v > most ? thrown : 0;
    }

    /** The one that is told first: the document tells them in this order everywhere. */
    private static int first(int... thrown) {
        int least = 0;
        for (int one : thrown) {
            if (one != 0 && (least == 0 || one < least)) {
                least = one;
            }
        }
        return least;
    }

    private static int ward(int w) {
        return out(w, 0, 1, NSE);
    }

    private static int kind(int kind) {
        return out(kind, 0, 9, IAE);
    }

    private static int lasts(int lasts) {
        return out(lasts, 1, 24, IAE);
    }

    private static int tray(int t) {
        return t == 0 ? ISE : out(t, 0, 3, NSE);
    }

    private static int asInt(boolean b) {
        return b ? 1 : 0;
    }

    private static void toldFirst() {
        Check.edge(0, "Of several throws of a call that one comes that is told first.");
        one("seen of no such WARD, MISSING, no such KIND", NSE, new int[] {0, 10, 2}, (x, a) -> x.seen(a[0], a[1], a[2]));
        one("seen, MISSING, no such KIND", ISE, new int[] {0, 10, 1}, (x, a) -> x.seen(a[0], a[1], a[2]));
        one("seen of no such KIND", IAE, new int[] {1, 10, 1}, (x, a) -> x.seen(a[0], a[1], a[2]));
        one("write, MISSING, no such place", ISE, new int[] {0, -1}, (x, a) -> x.write(a[0], a[1], 7));
        Check.edge(0, "A call that throws changes nothing.");
        // none of many refused calls leaves a trace, and the next one that isn't refused answers as on a twin
        DegreeLaws x = lived();
        for (int i = 0; i < 50; i++) {
            Check.due("fire", Check.thrownBy(() -> x.fire(0, 61, 1)), IAE);
            Check.due("repeal", Check.thrownBy(() -> x.repeal(1)), ISE);
            Check.due("undo", Check.thrownBy(() -> x.undo(4)), IAE);
            Check.due("season", Check.thrownBy(() -> x.season(1, 31)), IAE);
            Check.due("perform", Check.thrownBy(() -> x.perform(0)), ISE);
        }
        Check.due("season", x.season(3, 30), lived().season(3, 30));
        x.restore(1);
        Check.due("HOUR", x.count(4), 46);
    }

    private static void ofTheLand() {
        grid(3, "n is below 0 or above what it has", new int[][] {{LOW, -1, 0, 20, 21, 900, HIGH}}, a -> out(a[0], 0, 20, IAE),
            (x, a) -> x.land(a[0]));
        grid(5, "Of a WARD", new int[][] {TWO, {LOW, -1, 0, 5, 6, HIGH}}, a -> first(ward(a[0]), out(a[1], 0, 5, IAE)),
            (x, a) -> x.ward(a[0], a[1]));
        grid(6, "Of an ACT", new int[][] {TWO, {LOW, -1, 0, 4, 5, HIGH}}, a -> first(ward(a[0]), out(a[1], 0, 4, IAE)),
            (x, a) -> x.act(a[0], a[1]));
        grid(7, "DEGREE of a WARD", new int[][] {TWO, AHEAD}, a -> first(ward(a[0]), out(a[1], 0, 999, IAE)),
            (x, a) -> x.degree(a[0], a[1]));
        grid(8, "ACTS IN FORCE", new int[][] {TWO, AHEAD}, a -> first(ward(a[0]), out(a[1], 0, 999, IAE)),
            (x, a) -> x.code(a[0], a[1]));
    }

    private static void ofDeeds() {
        int[][] values = {KINDS, TWO, AHEAD, LASTS};
        Told told = a -> first(kind(a[0]), ward(a[1]), out(a[2], 0, 999, IAE), lasts(a[3]));
        grid(9, "What a DEED of a KIND", values, told, (x, a) -> x.fine(a[0], a[1], a[2], a[3]));
        grid(10, "Whether it is LAWFUL.", values, told, (x, a) -> asInt(x.lawful(a[0], a[1], a[2], a[3])));
        grid(29, "TO HEAT", values, told, (x, a) -> x.heat(a[0], a[1], a[2], a[3]));
    }

    private static void ofDeedsOfState() {
        int[][] laidOn = {TWO, {LOW, -1, 0, 60, 61, HIGH}, {LOW, 0, 1, 99, 100, HIGH}};
        Told bounds = a -> first(ward(a[0]), out(a[1], 0, 60, IAE), out(a[2], 1, 99, IAE));
        grid(11, "FIRE", laidOn, bounds, (x, a) -> x.fire(a[0], a[1], a[2]));
        grid(12, "ICE", laidOn, bounds, (x, a) -> x.ice(a[0], a[1], a[2]));
        grid(13, "An ACT has two other DEGREES", new int[][] {TWO, DEGREES, DEGREES},
            a -> first(ward(a[0]), out(a[1], 0, 99, IAE), out(a[2], 0, 99, IAE), a[2] < a[1] ? IAE : 0),
            (x, a) -> x.amend(a[0], a[1], a[2]));
        grid(14, "An ACT is repealed", new int[][] {TWO}, a -> a[0] == 1 ? ISE : ward(a[0]), (x, a) -> x.repeal(a[0]));
        grid(15, "n HOURS (1 to 99) go by", new int[][] {{LOW, -1, 0, 1, 99, 100, HIGH}}, a -> out(a[0], 1, 99, IAE),
            (x, a) -> x.hours(a[0]));
        grid(16, "A DEED is done now", new int[][] {KINDS, TWO, LASTS}, a -> first(kind(a[0]), ward(a[1]), lasts(a[2])),
            (x, a) -> x.done(a[0], a[1], a[2]));
        // three can be undone
        grid(17, "n DEEDS OF STATE are UNDONE", new int[][] {{LOW, -1, 0, 1, 3, 4, 10, 11, HIGH}}, a -> out(a[0], 1, 3, IAE),
            (x, a) -> x.undo(a[0]));
    }

    private static void ofTold() {
        grid(18, "TOLD ONES, judged as if done", new int[][] {TRAYS, {LOW, -1, 0, 3, 4, HIGH}},
            a -> first(tray(a[0]), out(a[1], 0, 3, IAE)), (x, a) -> x.judge(a[0], a[1]));
        grid(19, "They are done", new int[][] {TRAYS}, a -> tray(a[0]), (x, a) -> x.perform(a[0]));
        grid(20, "A SEASON", new int[][] {{LOW, -1, 0, 1, HIGH}, {LOW, -1, 0, 1, 30, 31, HIGH}}, a -> out(a[1], 1, 30, IAE),
            (x, a) -> x.season(a[0], a[1]));
    }

    private static void ofHoursToCome() {
        int[][] deed = {KINDS, TWO, LASTS};
        Told told = a -> first(kind(a[0]), ward(a[1]), lasts(a[2]));
        grid(21, "SOONEST", deed, told, (x, a) -> x.soonest(a[0], a[1], a[2]));
        grid(22, "The WARD where it is LAWFUL SOONEST", new int[][] {KINDS, LASTS}, a -> first(kind(a[0]), lasts(a[1])),
            (x, a) -> x.where(a[0], a[1]));
        grid(23, "The n (0 to 200) by which it is FINED least", deed, told, (x, a) -> x.cheapest(a[0], a[1], a[2]));
        grid(24, "How many of the next n HOURS", new int[][] {KINDS, TWO, SOUGHT},
            a -> first(kind(a[0]), ward(a[1]), out(a[2], 1, 200, IAE)), (x, a) -> x.freeHours(a[0], a[1], a[2]));
        grid(25, "The longest row of such HOURS", new int[][] {KINDS, TWO, SOUGHT, {LOW, -1, 0, 1, 2, HIGH}},
            a -> first(kind(a[0]), ward(a[1]), out(a[2], 1, 200, IAE), out(a[3], 0, 1, IAE)),
            (x, a) -> x.spell(a[0], a[1], a[2], a[3]));
        grid(26, "in a WARD first", new int[][] {TWO}, a -> ward(a[0]), (x, a) -> x.lawless(a[0]));
        grid(27, "KINDS each of which is", new int[][] {{0}}, a -> 0, (x, a) -> x.alwaysBarred());
        grid(28, "The HOUR to come", new int[][] {{0}}, a -> 0, (x, a) -> x.strictest());
        grid(30, "The n (0 to 200) by which TO HEAT is least", deed, told, (x, a) -> x.leastHeat(a[0], a[1], a[2]));
    }

    private static void ofActs() {
        grid(31, "COVER", new int[][] {KINDS, TWO, {LOW, -1, 0, 1, 2, HIGH}}, a -> first(kind(a[0]), ward(a[1]), out(a[2], 0, 1, IAE)),
            (x, a) -> x.cover(a[0], a[1], a[2]));
        grid(32, "By how many DEGREES in all", new int[][] {TWO, TWO}, a -> first(ward(a[0]), ward(a[1])), (x, a) -> x.widen(a[0], a[1]));
        grid(33, "The ACT (not repealed)", new int[][] {TWO}, a -> ward(a[0]), (x, a) -> x.heaviest(a[0]));
    }

    private static void ofWays() {
        Told way = a -> first(kind(a[0]), ward(a[1]), ward(a[2]));
        grid(34, "The fewest HOURS of a FREE WAY", new int[][] {KINDS, TWO, TWO}, way, (x, a) -> x.freeWay(a[0], a[1], a[2]));
        grid(35, "of the first such WAY", new int[][] {KINDS, TWO, TWO, {LOW, -1, 0, 61, HIGH}},
            a -> first(way.thrown(a), a[3] < 0 ? IAE : 0), (x, a) -> x.freeAt(a[0], a[1], a[2], a[3]));
        grid(36, "The least that is FINED", new int[][] {KINDS, TWO, TWO, {LOW, -1, 0, 60, 61, HIGH}},
            a -> first(way.thrown(a), out(a[3], 0, 60, IAE)), (x, a) -> x.wayFine(a[0], a[1], a[2], a[3]));
        grid(37, "How many FREE WAYS", new int[][] {KINDS, TWO, TWO, {LOW, -1, 0, 20, 21, HIGH}},
            a -> first(way.thrown(a), out(a[3], 0, 20, IAE)), (x, a) -> x.freeWays(a[0], a[1], a[2], a[3]));
        grid(38, "The WARD (neither of both)", new int[][] {KINDS, TWO, TWO},
            a -> first(way.thrown(a), a[1] == a[2] ? IAE : 0), (x, a) -> x.guard(a[0], a[1], a[2]));
    }

    private static void ofErrands() {
        // tray 2 has too many numbers, and the one of tray 3 is no errand
        Told told = a -> first(tray(a[0]), a[0] == 2 || a[0] == 3 ? IAE : 0);
        grid(39, "ERRANDS in order", new int[][] {TRAYS}, told, (x, a) -> x.errands(a[0]));
        grid(40, "In the order by which all are done soonest", new int[][] {TRAYS, {LOW, -1, 0, 1, 9, 10, 13, 14, HIGH}},
            a -> first(told.thrown(a), a[1] == 0 ? 0 : out(a[1], 10, 13, IAE)), (x, a) -> x.bestOrder(a[0], a[1]));
    }

    private static void ofThermometers() {
        int[][] values = {TRAYS, KINDS, TWO};
        Told told = a -> first(tray(a[0]), kind(a[1]), ward(a[2]), a[0] == 2 ? IAE : 0);
        grid(41, "SEEN", values, told, (x, a) -> x.seen(a[0], a[1], a[2]));
        grid(42, "The k-th of these", new int[][] {TRAYS, KINDS, TWO, {LOW, -1, 0, 41, HIGH}},
            a -> first(told.thrown(a), a[3] < 0 ? IAE : 0), (x, a) -> x.breath(a[0], a[1], a[2], a[3]));
        grid(43, "The HOUR to come", values, told, (x, a) -> x.look(a[0], a[1], a[2]));
    }

    private static void ofTraysAndImages() {
        grid(44, "A TRAY is a row", new int[][] {TRAYS, {LOW, -1, 0, 3, 4, HIGH}, {LOW, -1, 0, 30, 31, HIGH}},
            a -> first(out(a[0], 0, 3, NSE), out(a[1], 0, 3, IAE), out(a[2], 0, 30, IAE)), (x, a) -> {
                x.tray(a[0], a[1], a[2]);
                return 0;
            });
        int[] many = {0, 2, 30, 1};
        grid(45, "A number comes to a place", new int[][] {TRAYS, {LOW, -1, 0, 1, 2, 29, 30, HIGH}},
            a -> first(tray(a[0]), a[0] < 0 || a[0] > 3 ? NSE : out(a[1], 0, many[a[0]] - 1, IOOBE)), (x, a) -> x.write(a[0], a[1], 77));
        grid(46, "DEGREES of a WARD", new int[][] {TRAYS, TWO}, a -> first(tray(a[0]), ward(a[1])), (x, a) -> x.copy(a[0], a[1]));
        grid(47, "An IMAGE is made.", new int[][] {{LOW, -1, 0, 2, 3, HIGH}}, a -> out(a[0], 0, 2, NSE), (x, a) -> {
            x.image(a[0]);
            return 0;
        });
        grid(48, "All is as in an IMAGE.", new int[][] {{LOW, -1, 0, 1, 2, 3, HIGH}},
            a -> a[0] == 1 ? 0 : first(out(a[0], 0, 2, NSE), a[0] == 0 || a[0] == 2 ? ISE : 0), (x, a) -> {
                x.restore(a[0]);
                return 0;
            });
    }
}
