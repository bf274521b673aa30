/** Edges of promises 34 to 38: ways. */
public final class EdgeWaysTest {
    // wards 0 and 3 with 1 and 2 between them; kind 1 is fined 4 where it is 50 and more
    private static final String DIAMOND = "ward 0;ward 0 beside 0;ward 0 beside 0;ward 0 beside 1 2;act 1 from 50 to 99 fine 4;";
    private static final String LINE = "ward 0;ward 0 beside 0;ward 0 beside 1;ward 0 beside 2;ward 0 beside 3;"
        + "act 1 from 50 to 99 fine 4;";

    public static void main(String[] args) {
        freeWay();
        staysOrGoes();
        free();
        within60();
        freeAt();
        firstByWards();
        wayFine();
        freeWays();
        guard();
        bounds();
        Check.end();
    }

    private static DegreeLaws plain() {
        DegreeLaws x = Check.landOf("ward 10;ward 20 beside 0;act 1 from 10 to 30 fine 5;act 2 from 20 to 99 fine 9;hour 6;");
        x.image(0);
        x.fire(0, 15, 40);
        x.repeal(1);
        x.done(1, 0, 3);
        Check.trayOf(x, 2, 1003, -1, 20010);
        return x;
    }

    private static void freeWay() {
        Check.edge(34, "The fewest HOURS of a FREE WAY of a KIND from a WARD to another one or itself (0 then, if it isn't FINED now); "
            + "NONE: there is none.");
        DegreeLaws x = Check.landOf(LINE);
        for (int from = 0; from < 5; from++) {
            for (int to = 0; to < 5; to++) {
                Check.due("from " + from + " to " + to, x.freeWay(1, from, to), Math.abs(from - to));
            }
        }
        Check.due("no WARD beside", Check.landOf("ward 0;ward 0;").freeWay(1, 0, 1), -1);
        Check.due("itself", Check.landOf("ward 0;ward 0;").freeWay(1, 1, 1), 0);
        x.fire(2, 60, 1);
        Check.due("itself, FINED now", x.freeWay(1, 2, 2), -1);
        Check.due("FINED now where it begins", x.freeWay(1, 2, 0), -1);
        Check.due("FINED now on the way alone", x.freeWay(1, 0, 4), 4);
        x.fire(2, 60, 3);
        Check.due("FINED when one comes there", x.freeWay(1, 0, 4), 5);
        x.fire(2, 60, 2);
        Check.due("no more FINED then", x.freeWay(1, 0, 4), 4);
        x.fire(4, 60, 5);
        Check.due("the last HOUR counts too", x.freeWay(1, 0, 4), 5);
        x.fire(4, 60, 4);
        Check.due("just in time", x.freeWay(1, 0, 4), 4);
        Check.due("another KIND", x.freeWay(2, 0, 4), 4);
    }

    private static void staysOrGoes() {
        Check.edge(0, "A WAY: from a WARD now, each HOUR one stays or goes to a WARD beside");
        DegreeLaws x = Check.landOf(DIAMOND + "ward 0;");
        int[] beside = {1 | 2 | 4, 1 | 2 | 8, 1 | 4 | 8, 2 | 4 | 8, 16};
        for (int from = 0; from < 5; from++) {
            for (int to = 0; to < 5; to++) {
                int one = beside[from] >> to & 1;
                Check.due("in an HOUR from " + from + " to " + to, x.freeWays(1, from, to, 1), one);
                Check.due("in no HOUR from " + from + " to " + to, x.freeWays(1, from, to, 0), from == to ? 1 : 0);
                Check.due("FINED in an HOUR from " + from + " to " + to, x.wayFine(1, from, to, 1), one - 1);
            }
        }
    }

    private static void free() {
        Check.edge(0, "what is carried, of a KIND, is FINED in each HOUR, this one and the last too (as a DEED of 1 HOUR). FREE, if nothing "
            + "is FINED on it.");
        DegreeLaws x = Check.landOf("ward 0;ward 0 beside 0;act 1 from 0 to 9 fine 0;");
        Check.due("BARRED, but nothing is FINED", x.freeWay(1, 0, 1), 1);
        Check.due("BARRED, but nothing is FINED", x.freeWays(1, 0, 1, 1), 1);
        DegreeLaws y = Check.landOf("ward 0;ward 0 beside 0;act 1 from 0 to 9 fine 0;act 1 from 0 to 9 fine 1;");
        Check.due("FINED 1 in all", y.freeWay(1, 0, 1), -1);
        DegreeLaws z = Check.landOf("ward 0;ward 0 beside 0;act 1 from 1 to 1 fine 7;degree:hour;whole;");
        Check.due("a DEED of 1 HOUR, whole", z.wayFine(1, 0, 1, 1), 7);
        Check.due("a DEED of 1 HOUR, whole", z.wayFine(1, 0, 0, 0), 0);
        Check.due("this one too", Check.landOf("ward 0;act 1 from 0 to 0 fine 7;degree:hour;").wayFine(1, 0, 0, 1), 7);
    }

    private static void within60() {
        Check.edge(0, "Within 60 HOURS.");
        DegreeLaws x = Check.landOf(LINE);
        x.fire(1, 60, 60);
        Check.due("just 60", x.freeWay(1, 0, 1), 60);
        Check.due("61", x.freeWay(1, 0, 2), -1);
        Check.due("the last of them", x.freeAt(1, 0, 1, 60), 1);
        Check.due("the one ahead", x.freeAt(1, 0, 1, 59), 0);
        Check.due("not so many", x.freeAt(1, 0, 1, 61), -1);
        x.fire(1, 60, 61);
        Check.due("61", x.freeWay(1, 0, 1), -1);
        Check.due("61", x.freeAt(1, 0, 1, 0), -1);
        x.fire(1, 60, 59);
        Check.due("59", x.freeWay(1, 0, 1), 59);
        Check.due("60", x.freeWay(1, 0, 2), 60);
        DegreeLaws guarded = Check.landOf(DIAMOND);
        guarded.fire(2, 60, 58);
        // without 1 it comes in 59; a fire of two hours more: in 61, which is not at all
        Check.due("59 by the other", guarded.guard(1, 0, 3), 1);
        guarded.fire(2, 60, 60);
        Check.due("not at all by the other", guarded.guard(1, 0, 3), 1);
    }

    private static void way(DegreeLaws x, int from, int to, int... wards) {
        for (int k = 0; k < wards.length; k++) {
            Check.due("in HOUR " + k, x.freeAt(1, from, to, k), wards[k]);
        }
        Check.due("not so many", x.freeAt(1, from, to, wards.length), -1);
        Check.due("not so many", x.freeAt(1, from, to, Integer.MAX_VALUE), -1);
    }

    private static void freeAt() {
        Check.edge(35, "The WARD in the k-th HOUR (0: where it begins)");
        DegreeLaws x = Check.landOf(LINE);
        way(x, 0, 4, 0, 1, 2, 3, 4);
        way(x, 4, 0, 4, 3, 2, 1, 0);
        way(x, 2, 2, 2);
        Check.edge(35, "NONE: not so many, there is none.");
        x.fire(4, 60, 1);
        way(x, 4, 0);
        way(x, 4, 4);
        way(Check.landOf("ward 0;ward 0;"), 0, 1);
    }

    private static void firstByWards() {
        Check.edge(35, "of the first such WAY by WARDS");
        DegreeLaws x = Check.landOf(DIAMOND);
        way(x, 0, 3, 0, 1, 3);
        way(x, 3, 0, 3, 1, 0);
        x.fire(1, 60, 2);
        way(x, 0, 3, 0, 2, 3);
        x.fire(2, 60, 2);
        // both are free in two hours: one stays first
        way(x, 0, 3, 0, 0, 1, 3);
        x.fire(1, 60, 3);
        way(x, 0, 3, 0, 0, 2, 3);
        DegreeLaws y = Check.landOf(DIAMOND);
        y.fire(3, 60, 4);
        // in 4 hours: of 0 0 0 1 3, 0 1 1 1 3 and so on the first
        way(y, 0, 3, 0, 0, 0, 1, 3);
        y.fire(0, 60, 99);
        y.ice(0, 60, 1);
        // it begins free, but can't stay
        way(y, 0, 3, 0, 1, 1, 1, 3);
        DegreeLaws z = Check.landOf(DIAMOND);
        z.fire(0, 60, 2);
        // from 3 to 0 in two hours: by 1; it may not come back first
        way(z, 3, 0, 3, 1, 0);
        z.fire(0, 60, 3);
        // in three: 3 1 1 0 is ahead of 3 2 2 0 and of 3 3 1 0
        way(z, 3, 0, 3, 1, 1, 0);
    }

    private static void wayFine() {
        Check.edge(36, "The least that is FINED on a WAY of just n HOURS (0 to 60); NONE: there is no such WAY.");
        DegreeLaws x = Check.landOf("ward 0;ward 50 beside 0;ward 0 beside 1;act 1 from 50 to 50 fine 4;act 1 from 0 to 50 fine 2;");
        Check.due("0 HOURS", x.wayFine(1, 1, 1, 0), 6);
        Check.due("0 HOURS to another WARD", x.wayFine(1, 0, 1, 0), -1);
        Check.due("1 HOUR too far", x.wayFine(1, 0, 2, 1), -1);
        Check.due("2 HOURS", x.wayFine(1, 0, 2, 2), 10);
        Check.due("60 HOURS", x.wayFine(1, 0, 2, 60), 61 * 2 + 4);
        Check.due("60 HOURS", x.wayFine(1, 0, 0, 60), 122);
        Check.due("from where it is dear", x.wayFine(1, 1, 1, 60), 122 + 8);
        Check.due("nothing is FINED", x.wayFine(3, 0, 2, 60), 0);
        Check.due("no WAY ever", Check.landOf("ward 0;ward 0;").wayFine(1, 0, 1, 60), -1);
        DegreeLaws most = Check.landOf("ward 0;" + "act 1 from 0 to 0 fine 99;".repeat(8));
        Check.due("most", most.wayFine(1, 0, 0, 60), 61 * 792);
        DegreeLaws last = Check.landOf("ward 0;act 1 from 1 to 99 fine 5;");
        last.fire(0, 60, 60);
        Check.due("the last HOUR is free", last.wayFine(1, 0, 0, 60), 300);
        last.fire(0, 60, 61);
        Check.due("the last HOUR counts", last.wayFine(1, 0, 0, 60), 305);
        last.fire(0, 60, 99);
        Check.due("no HOUR more", last.wayFine(1, 0, 0, 60), 305);
        five();
    }

    /** Ways by the last ward, and fines by ward and hour. */
    private static void five() {
        DegreeLaws x = Check.landOf("ward 1;ward 2 beside 0;ward 3 beside 0;ward 4 beside 0;ward 0 beside 0;act 1 from 1 to 9 fine 1;"
            + "act 1 from 2 to 9 fine 1;act 1 from 3 to 9 fine 1;act 1 from 4 to 9 fine 1;");
        // 1, 2, 3, 4 and 0 an hour in wards 0 to 4
        Check.due("by WARD 4", x.wayFine(1, 1, 3, 10), 2 + 1 + 0 * 7 + 1 + 4);
        Check.due("from WARD 4", x.wayFine(1, 4, 4, 60), 0);
        Check.due("to WARD 4", x.wayFine(1, 3, 4, 60), 5);
    }

    private static void freeWays() {
        Check.edge(37, "How many FREE WAYS of just n HOURS (0 to 20) there are.");
        DegreeLaws all = Check.landOf("ward 0;ward 0 beside 0;ward 0 beside 0 1;ward 0 beside 0 1 2;ward 0 beside 0 1 2 3;");
        long five = 1;
        for (int n = 0; n <= 20; n++) {
            Check.due("to itself in " + n, all.freeWays(1, 4, 4, n), n == 0 ? 1 : five / 5);
            Check.due("to another in " + n, all.freeWays(1, 0, 4, n), n == 0 ? 0 : five / 5);
            five *= 5;
        }
        DegreeLaws line = Check.landOf(LINE);
        Check.due("0 HOURS", line.freeWays(1, 0, 0, 0), 1);
        Check.due("too far", line.freeWays(1, 0, 4, 3), 0);
        Check.due("just one", line.freeWays(1, 0, 4, 4), 1);
        // one stays once in one of five wards
        Check.due("an HOUR more", line.freeWays(1, 0, 4, 5), 5);
        line.fire(2, 60, 3);
        // in hour 2 ward 2 is closed: one stays in 0 or 1 first
        Check.due("fewer are free", line.freeWays(1, 0, 4, 5), 2);
        line.fire(0, 60, 1);
        Check.due("FINED now", line.freeWays(1, 0, 4, 20), 0);
        Check.due("FINED now", line.freeWays(1, 0, 0, 0), 0);
        DegreeLaws last = Check.landOf("ward 0;act 1 from 50 to 99 fine 4;");
        last.ice(0, 60, 20);
        last.fire(0, 60, 99);
        Check.due("the last HOUR is FINED", last.freeWays(1, 0, 0, 20), 0);
        last.ice(0, 60, 21);
        Check.due("the last HOUR is free", last.freeWays(1, 0, 0, 20), 1);
    }

    private static void guard() {
        Check.edge(38, "The WARD (neither of both) that, let nobody in, makes the soonest FREE WAY come most later (not at all: latest), the "
            + "first; NONE: none does, there is none.");
        DegreeLaws line = Check.landOf(LINE);
        Check.due("not at all: the first", line.guard(1, 0, 4), 1);
        Check.due("neither of both", line.guard(1, 1, 3), 2);
        Check.due("none between", line.guard(1, 1, 2), -1);
        Check.due("there is none", Check.landOf("ward 0;ward 0;ward 0 beside 0;").guard(1, 0, 1), -1);
        DegreeLaws diamond = Check.landOf(DIAMOND);
        Check.due("none does", diamond.guard(1, 0, 3), -1);
        diamond.fire(1, 60, 3);
        Check.due("by 1 it comes later", diamond.guard(1, 0, 3), 2);
        diamond.fire(2, 60, 3);
        Check.due("both alike", diamond.guard(1, 0, 3), -1);
        diamond.fire(0, 60, 1);
        Check.due("FINED now: there is none", diamond.guard(1, 0, 3), -1);
        // 0 - 1 - 3 - 4 and 0 - 2 - 3; without 1 it is later, without 3 not at all
        DegreeLaws kite = Check.landOf("ward 0;ward 0 beside 0;ward 0 beside 0;ward 0 beside 1 2;ward 0 beside 3;act 1 from 50 to 99 fine 4;");
        kite.fire(2, 60, 57);
        Check.due("not at all: latest", kite.guard(1, 0, 4), 3);
        kite.fire(2, 60, 58);
        // without 1 it comes in 60, without 3 not at all
        Check.due("not at all is later than in 60", kite.guard(1, 0, 4), 3);
        DegreeLaws late = Check.landOf(LINE);
        late.fire(4, 60, 60);
        Check.due("in 60, or not at all", late.guard(1, 0, 4), 1);
        kite.fire(2, 60, 59);
        // without 1 it would come in 61: not at all too, and the first of both
        Check.due("not at all within 60", kite.guard(1, 0, 4), 1);
        // ways by 1 and then by 2 or 3; 2 is open later
        DegreeLaws most = Check.landOf("ward 0;ward 0 beside 0;ward 0 beside 0;ward 0 beside 0;ward 0 beside 1 2 3;act 1 from 50 to 99 fine 4;");
        most.fire(2, 60, 9);
        most.fire(3, 60, 5);
        Check.due("by 3 then", most.guard(1, 0, 4), 1);
        most.fire(1, 60, 5);
        Check.due("1 and 3 alike", most.guard(1, 0, 4), -1);
        most.fire(3, 60, 7);
        Check.due("1 again", most.guard(1, 0, 4), 1);
        Check.due("WARD 0", most.guard(2, 1, 2), -1);
        Check.due("WARD 0", Check.landOf("ward 0;ward 0 beside 0;ward 0 beside 0;").guard(9, 1, 2), 0);
    }

    private interface Way {
        long go(DegreeLaws x, int kind, int from, int to);
    }

    private static void ofAll(int promise, String words, Way way) {
        Check.edge(promise, words);
        for (int v : new int[] {Integer.MIN_VALUE, -1, 10, Integer.MAX_VALUE}) {
            Check.refusedOf("KIND " + v, EdgeWaysTest::plain, Check.IAE, x -> way.go(x, v, 0, 1));
            Check.refusedOf("KIND " + v + " from WARD 2", EdgeWaysTest::plain, Check.NSE, x -> way.go(x, v, 2, 1));
        }
        for (int v : new int[] {Integer.MIN_VALUE, -1, 2, 5, 32, Integer.MAX_VALUE}) {
            Check.refusedOf("from WARD " + v, EdgeWaysTest::plain, Check.NSE, x -> way.go(x, 1, v, 0));
            Check.refusedOf("to WARD " + v, EdgeWaysTest::plain, Check.NSE, x -> way.go(x, 1, 0, v));
            Check.refusedOf("both WARD " + v, EdgeWaysTest::plain, Check.NSE, x -> way.go(x, 1, v, v));
        }
        Check.due("the first of each", Check.thrownBy(() -> way.go(plain(), 0, 0, 1)), 0);
        Check.due("the last of each", Check.thrownBy(() -> way.go(plain(), 9, 1, 0)), 0);
    }

    private static void bounds() {
        ofAll(34, "IllegalArgumentException: the KIND (as below).", DegreeLaws::freeWay);
        ofAll(35, "The WARD in the k-th HOUR", (x, kind, from, to) -> x.freeAt(kind, from, to, 0));
        ofAll(36, "The least that is FINED", (x, kind, from, to) -> x.wayFine(kind, from, to, 60));
        ofAll(37, "How many FREE WAYS", (x, kind, from, to) -> x.freeWays(kind, from, to, 20));
        ofAll(38, "The WARD (neither of both)", DegreeLaws::guard);
        Check.edge(35, "IllegalArgumentException: also k is below 0.");
        for (int k : new int[] {Integer.MIN_VALUE, -1}) {
            Check.refusedOf("freeAt(1, 0, 1, " + k + ")", EdgeWaysTest::plain, Check.IAE, x -> x.freeAt(1, 0, 1, k));
            Check.refusedOf("freeAt(1, 0, 2, " + k + ")", EdgeWaysTest::plain, Check.NSE, x -> x.freeAt(1, 0, 2, k));
        }
        Check.edge(36, "IllegalArgumentException: also n.");
        for (int n : new int[] {Integer.MIN_VALUE, -1, 61, Integer.MAX_VALUE}) {
            Check.refusedOf("wayFine(1, 0, 1, " + n + ")", EdgeWaysTest::plain, Check.IAE, x -> x.wayFine(1, 0, 1, n));
            Check.refusedOf("wayFine(1, 0, 2, " + n + ")", EdgeWaysTest::plain, Check.NSE, x -> x.wayFine(1, 0, 2, n));
        }
        Check.edge(37, "IllegalArgumentException: also n.");
        for (int n : new int[] {Integer.MIN_VALUE, -1, 21, 60, Integer.MAX_VALUE}) {
            Check.refusedOf("freeWays(1, 0, 1, " + n + ")", EdgeWaysTest::plain, Check.IAE, x -> x.freeWays(1, 0, 1, n));
            Check.refusedOf("freeWays(1, -1, 1, " + n + ")", EdgeWaysTest::plain, Check.NSE, x -> x.freeWays(1, -1, 1, n));
        }
        Check.edge(38, "IllegalArgumentException: also both one.");
        for (int w = 0; w < 2; w++) {
            int both = w;
            Check.refusedOf("guard(1, " + w + ", " + w + ")", EdgeWaysTest::plain, Check.IAE, x -> x.guard(1, both, both));
        }
        Check.refusedOf("guard(10, 2, 2)", EdgeWaysTest::plain, Check.NSE, x -> x.guard(10, 2, 2));
    }
}
