/** Edges of promises 44 to 49: trays, images, counts. */
public final class EdgeTraysTest {
    private static final String PLAIN = "ward 10;ward 20 beside 0;act 1 from 10 to 30 fine 5;act 2 from 20 to 99 fine 9;hour 6;";

    public static void main(String[] args) {
        tray();
        trayBounds();
        write();
        writeBounds();
        copy();
        copyBounds();
        image();
        imagesOfAll();
        restore();
        restoreBounds();
        count();
        countOthers();
        Check.end();
    }

    private static DegreeLaws plain() {
        DegreeLaws x = Check.landOf(PLAIN);
        x.image(0);
        x.fire(0, 15, 40);
        x.repeal(1);
        x.done(1, 0, 3);
        x.image(1);
        x.hours(4);
        Check.trayOf(x, 2, 1003, -1, 20010);
        x.tray(3, 1, 2);
        x.feed(0x77617264, 0x20313b20, 0x20202020, 0x20202020, 0x20202020);
        return x;
    }

    private static void tray() {
        Check.edge(44, "A TRAY is a row of so many 0s.");
        for (int t = 0; t < 4; t++) {
            for (int sort = 0; sort < 4; sort++) {
                for (int many : new int[] {0, 1, 29, 30}) {
                    DegreeLaws x = Check.landOf(PLAIN);
                    int tray = t;
                    x.tray(t, sort, many);
                    // 0 is no told one: the first place that can't be
                    Check.due("0s", x.judge(t, 0), many == 0 ? -1 : 0);
                    for (int i = 0; i < many; i++) {
                        Check.due("place " + i + " is 0", x.judge(t, 0), i);
                        Check.due("place " + i + " is there", x.write(t, i, -1), -1);
                    }
                    Check.due("place " + many + " isn't", Check.thrownBy(() -> x.write(tray, many, -1)), Check.IOOBE);
                    Check.due("all are HOURS now", x.judge(t, 2), 6 + many);
                    x.tray(t, sort, many);
                    Check.due("0s again", x.judge(t, 2), 6);
                    Check.due("0s again", x.judge(t, 1), many == 0 ? 0 : 1);
                }
            }
        }
        DegreeLaws x = Check.landOf(PLAIN);
        Check.trayOf(x, 0, -1, -1, -1);
        x.tray(0, 3, 1);
        x.tray(0, 3, 3);
        Check.due("nothing is left of former numbers", x.judge(0, 0), 0);
        x.write(0, 0, -1);
        Check.due("nothing is left of former numbers", x.judge(0, 0), 1);
        Check.trayOf(x, 1, -1);
        x.tray(0, 0, 5);
        Check.due("other TRAYS stay", x.judge(1, 2), 7);
    }

    private static void trayBounds() {
        Check.edge(44, "NoSuchElementException: no such TRAY; IllegalArgumentException: no such sort, or not so many.");
        for (int v : new int[] {Integer.MIN_VALUE, -1, 4, Integer.MAX_VALUE}) {
            Check.refusedOf("tray(" + v + ", 0, 1)", EdgeTraysTest::plain, Check.NSE, x -> put(x, v, 0, 1));
            Check.refusedOf("tray(" + v + ", 4, 31)", EdgeTraysTest::plain, Check.NSE, x -> put(x, v, 4, 31));
            Check.refusedOf("tray(2, " + v + ", 1)", EdgeTraysTest::plain, Check.IAE, x -> put(x, 2, v, 1));
            Check.refusedOf("tray(0, " + v + ", 1)", EdgeTraysTest::plain, Check.IAE, x -> put(x, 0, v, 1));
        }
        for (int v : new int[] {Integer.MIN_VALUE, -1, 31, Integer.MAX_VALUE}) {
            Check.refusedOf("tray(2, 0, " + v + ")", EdgeTraysTest::plain, Check.IAE, x -> put(x, 2, 0, v));
            Check.refusedOf("tray(0, 3, " + v + ")", EdgeTraysTest::plain, Check.IAE, x -> put(x, 0, 3, v));
        }
    }

    private static long put(DegreeLaws x, int tray, int sort, int many) {
        x.tray(tray, sort, many);
        return 0;
    }

    private static void write() {
        Check.edge(45, "A number comes to a place of a TRAY, cut to its sort: as it is there.");
        long[] given = {0, 1, -1, 127, 128, 255, 256, -128, -129, 32767, 32768, 65535, 65536, -32768, -32769, (1L << 31) - 1, 1L << 31,
            (1L << 32) - 1, 1L << 32, -(1L << 31), -(1L << 31) - 1, Long.MAX_VALUE, Long.MIN_VALUE};
        long[] bits8 = {0, 1, -1, 127, -128, -1, 0, -128, 127, -1, 0, -1, 0, 0, -1, -1, 0, -1, 0, 0, -1, -1, 0};
        long[] bits16 = {0, 1, -1, 127, 128, 255, 256, -128, -129, 32767, -32768, -1, 0, -32768, 32767, -1, 0, -1, 0, 0, -1, -1, 0};
        long[] bits32 = {0, 1, -1, 127, 128, 255, 256, -128, -129, 32767, 32768, 65535, 65536, -32768, -32769, (1L << 31) - 1,
            -(1L << 31), -1, 0, -(1L << 31), (1L << 31) - 1, -1, 0};
        long[][] want = {bits8, bits16, bits32, given};
        for (int sort = 0; sort < 4; sort++) {
            DegreeLaws x = new DegreeLaws();
            x.tray(sort, sort, 30);
            for (int i = 0; i < given.length; i++) {
                Check.due("write " + given[i] + " of sort " + sort, x.write(sort, i, given[i]), want[sort][i]);
            }
        }
        DegreeLaws x = Check.landOf(PLAIN);
        x.tray(0, 0, 3);
        x.write(0, 0, 255);
        Check.due("255 of 8 bits is NONE: an HOUR", x.judge(0, 2), 7);
        x.write(0, 1, 256 + 5);
        x.write(0, 2, 3);
        Check.due("261 of 8 bits is 5", x.judge(0, 2), 6 + 1 + 5 + 3);
        x.write(0, 1, 7);
        Check.due("a number strikes the one there, and no other", x.judge(0, 2), 6 + 1 + 7 + 3);
        x.tray(1, 1, 1);
        x.write(1, 0, 65536 + 20110);
        Check.due("of 16 bits", x.perform(1), 1);
        Check.due("FIRE", x.ward(1, 2), 10);
        Check.due("40000 doesn't go into 16 bits", x.write(1, 0, 40000), -25536);
        Check.due("and can't be", x.judge(1, 1), 1);
    }

    private static void writeBounds() {
        Check.edge(45, "IllegalStateException: it is MISSING; IndexOutOfBoundsException: it has no such place.");
        for (int v : new int[] {Integer.MIN_VALUE, -1, 3, 30, Integer.MAX_VALUE}) {
            Check.refusedOf("write(2, " + v + ", 7)", EdgeTraysTest::plain, Check.IOOBE, x -> x.write(2, v, 7));
            Check.refusedOf("write(0, " + v + ", 7)", EdgeTraysTest::plain, Check.ISE, x -> x.write(0, v, 7));
            Check.refusedOf("write(4, " + v + ", 7)", EdgeTraysTest::plain, Check.NSE, x -> x.write(4, v, 7));
            Check.refusedOf("write(-1, " + v + ", 7)", EdgeTraysTest::plain, Check.NSE, x -> x.write(-1, v, 7));
        }
        for (int v : new int[] {Integer.MIN_VALUE, -1, 4, Integer.MAX_VALUE}) {
            Check.refusedOf("write(" + v + ", 0, 7)", EdgeTraysTest::plain, Check.NSE, x -> x.write(v, 0, 7));
        }
        Check.refusedOf("write(1, 0, 7)", EdgeTraysTest::plain, Check.ISE, x -> x.write(1, 0, 7));
        DegreeLaws none = new DegreeLaws();
        none.tray(0, 3, 0);
        Check.due("no place of 0", Check.thrownBy(() -> none.write(0, 0, 7)), Check.IOOBE);
        DegreeLaws shrunk = new DegreeLaws();
        shrunk.tray(0, 3, 30);
        shrunk.tray(0, 3, 5);
        Check.due("place 5 of 5", Check.thrownBy(() -> shrunk.write(0, 5, 7)), Check.IOOBE);
        Check.due("place 4 of 5", shrunk.write(0, 4, 7), 7);
    }

    private static void copy() {
        Check.edge(46, "DEGREES of a WARD in the HOURS from now on come into a TRAY from its first place on, as many as it has places: how "
            + "many.");
        for (int many : new int[] {0, 1, 24, 30}) {
            // 1 to 24 by the hour: deeds of kind 0 in ward 0 for so many hours
            DegreeLaws x = Check.landOf("ward 1;ward 3;degree:(1+hour)*(1-ward)+ward*base;hour 22;");
            x.tray(0, 0, many);
            Check.due("how many", x.copy(0, 0), many);
            int sum = 22;
            for (int n = 0; n < many; n++) {
                sum += 1 + (22 + n) % 24;
            }
            Check.due("all can be", x.judge(0, 0), -1);
            Check.due("HOUR then", x.judge(0, 2), sum);
            Check.due("of WARD 1", x.copy(0, 1), many);
            Check.due("HOUR then", x.judge(0, 2), 22 + 3 * many);
        }
        DegreeLaws y = Check.landOf("ward 99;degree:base-fire;");
        y.fire(0, 60, 2);
        for (int sort = 0; sort < 4; sort++) {
            y.tray(sort, sort, 4);
            y.copy(sort, 0);
            // 39, 39, 99, 99: none is a deed
            Check.due("39 can't be", y.judge(sort, 0), 0);
            y.write(sort, 0, -1);
            y.write(sort, 1, -1);
            Check.due("99 can't be", y.judge(sort, 0), 2);
        }
        DegreeLaws seen = Check.landOf("ward 7;act 1 from 7 to 7 fine 7;");
        seen.hours(1);
        seen.tray(0, 1, 1);
        seen.copy(0, 0);
        Check.due("7 as a FINE", seen.seen(0, 1, 0), 1);
        Check.due("it changes no WARD", seen.degree(0, 0), 7);
        Check.due("it is no DEED OF STATE", seen.count(7), 1);
    }

    private static void copyBounds() {
        Check.edge(46, "DEGREES of a WARD");
        for (int v : new int[] {Integer.MIN_VALUE, -1, 4, Integer.MAX_VALUE}) {
            Check.refusedOf("copy(" + v + ", 0)", EdgeTraysTest::plain, Check.NSE, x -> x.copy(v, 0));
        }
        for (int v : new int[] {Integer.MIN_VALUE, -1, 2, Integer.MAX_VALUE}) {
            Check.refusedOf("copy(2, " + v + ")", EdgeTraysTest::plain, Check.NSE, x -> x.copy(2, v));
            Check.refusedOf("copy(0, " + v + ")", EdgeTraysTest::plain, Check.NSE, x -> x.copy(0, v));
        }
        Check.refusedOf("copy(0, 0)", EdgeTraysTest::plain, Check.ISE, x -> x.copy(0, 0));
        Check.refusedOf("copy(1, 1)", EdgeTraysTest::plain, Check.ISE, x -> x.copy(1, 1));
    }

    private static long made(DegreeLaws x, int i) {
        x.image(i);
        return 0;
    }

    private static long back(DegreeLaws x, int i) {
        x.restore(i);
        return 0;
    }

    private static void image() {
        Check.edge(47, "An IMAGE is made. NoSuchElementException: no such one.");
        DegreeLaws x = Check.landOf(PLAIN);
        for (int i = 0; i < 3; i++) {
            x.hours(1);
            x.image(i);
        }
        x.hours(9);
        for (int i = 2; i >= 0; i--) {
            x.restore(i);
            Check.due("IMAGE " + i, x.count(4), 7 + i);
        }
        x.restore(2);
        x.hours(5);
        x.image(1);
        x.restore(0);
        x.restore(1);
        Check.due("an IMAGE made anew", x.count(4), 14);
        x.restore(2);
        Check.due("the others stay", x.count(4), 9);
        Check.due("it is no DEED OF STATE", x.count(7), 3);
        for (int i : new int[] {Integer.MIN_VALUE, -1, 3, Integer.MAX_VALUE}) {
            Check.refusedOf("image(" + i + ")", EdgeTraysTest::plain, Check.NSE, y -> made(y, i));
        }
    }

    private static void imagesOfAll() {
        Check.edge(47, "An IMAGE is made.");
        // an image made anew has the new land
        DegreeLaws x = Check.landOf("ward 1;hour 11;");
        x.image(0);
        Check.landText(x, "ward 2;ward 3;act 1 from 2 to 2 fine 2;whole;hour 22;");
        x.image(0);
        Check.landText(x, "ward 4;hour 33;");
        x.restore(0);
        Check.due("LINES", x.count(0), 5);
        Check.due("WARDS", x.count(1), 2);
        Check.due("BASE", x.ward(1, 0), 3);
        Check.due("ACTS", x.count(2), 1);
        Check.due("whole", x.count(6), 1);
        Check.due("HOUR", x.count(4), 22);
        Check.due("DEGREE", x.degree(0, 0), 2);
        Check.due("IN FORCE", x.code(0, 0), 1);
        DegreeLaws none = new DegreeLaws();
        none.image(2);
        Check.landText(none, PLAIN);
        none.restore(2);
        Check.due("an IMAGE of no LAND", none.count(1), 0);
        Check.due("an IMAGE of no LAND", none.count(0), 0);
    }

    private static void restore() {
        Check.edge(48, "All is as in an IMAGE.");
        DegreeLaws x = Check.landOf(PLAIN);
        for (int i = 0; i < 12; i++) {
            x.fire(i % 2, i, 9);
            x.hours(1);
        }
        x.amend(0, 3, 33);
        x.repeal(1);
        x.done(1, 0, 2);
        x.image(0);
        String then = Check.sketch(x);
        DegreeLaws y = x;
        for (int round = 0; round < 2; round++) {
            y.undo(7);
            y.hours(77);
            y.season(5, 9);
            y.restore(0);
            Check.due("as it was", Check.sketch(y).equals(then) ? 1 : 0, 1);
            Check.due("ten can be UNDONE", y.count(7), 10);
        }
        y.undo(3);
        Check.due("not repealed", y.act(1, 4), 0);
        Check.due("not amended", y.act(0, 1), 10);
        Check.due("not PAID", y.count(5), 0);
        Check.due("HOUR", y.count(4), 18);
        Check.due("seven more", y.undo(7), 0);
        y.restore(0);
        Check.due("the IMAGE stays", Check.sketch(y).equals(then) ? 1 : 0, 1);
        law();
    }

    /** What was worked out of one land's law is not of another's. */
    private static void law() {
        DegreeLaws x = Check.landOf("ward 5;act 1 from 0 to 9 fine 1;prevails:hour=0;");
        Check.due("IN FORCE", x.code(0, 0), 1);
        x.image(0);
        Check.landText(x, "ward 5;act 1 from 0 to 9 fine 1;prevails:hour=1;");
        Check.due("not IN FORCE", x.code(0, 0), 0);
        x.restore(0);
        Check.due("IN FORCE again", x.code(0, 0), 1);
        Check.due("not in an HOUR", x.code(0, 1), 0);
        DegreeLaws y = Check.landOf("ward 5;act 1 from 0 to 9 fine 1;prevails:span=9;");
        y.image(0);
        y.amend(0, 0, 8);
        Check.due("not IN FORCE", y.code(0, 0), 0);
        y.restore(0);
        Check.due("IN FORCE again", y.code(0, 0), 1);
    }

    private static void restoreBounds() {
        Check.edge(48, "NoSuchElementException: no such one; IllegalStateException: none was made.");
        for (int i : new int[] {Integer.MIN_VALUE, -1, 3, Integer.MAX_VALUE}) {
            Check.refusedOf("restore(" + i + ")", EdgeTraysTest::plain, Check.NSE, y -> back(y, i));
        }
        Check.refusedOf("restore(2)", EdgeTraysTest::plain, Check.ISE, y -> back(y, 2));
        for (int i = 0; i < 3; i++) {
            int image = i;
            Check.refusedOf("restore(" + i + ")", DegreeLaws::new, Check.ISE, y -> back(y, image));
            DegreeLaws x = new DegreeLaws();
            x.image(i);
            Check.due("restore(" + i + ")", Check.thrownBy(() -> back(x, image)), 0);
        }
        DegreeLaws x = new DegreeLaws();
        x.image(1);
        Check.landText(x, PLAIN);
        Check.due("none was made by a new LAND", Check.thrownBy(() -> back(x, 0)), Check.ISE);
        Check.due("an IMAGE outlasts a LAND", Check.thrownBy(() -> back(x, 1)), 0);
    }

    private static void count() {
        Check.edge(49, "0 LINES, 1 WARDS, 2 ACTS, 3 those not repealed, 4 HOUR, 5 PAID, 6 1 if measured whole, else 0, 7 DEEDS OF STATE that "
            + "can be UNDONE, 8 bytes on the tape");
        DegreeLaws x = Check.landOf("ward 1;ward 2;ward 3;ward 4;ward 5;" + "act 1 from 0 to 9 fine 99;".repeat(8) + "hour 999;whole;");
        int[] first = {15, 5, 8, 8, 999, 0, 1, 0, 0};
        for (int what = 0; what <= 8; what++) {
            Check.due("count(" + what + ")", x.count(what), first[what]);
        }
        x.repeal(0);
        x.repeal(7);
        x.done(1, 0, 24);
        for (int i = 0; i < 9; i++) {
            x.hours(99);
        }
        x.feed(0, 0, 0, 0, 0);
        int[] then = {15, 5, 8, 6, 999 + 24 + 891, 24 * 6 * 99, 1, 10, 20};
        for (int what = 0; what <= 8; what++) {
            Check.due("count(" + what + ")", x.count(what), then[what]);
        }
    }

    private static void countOthers() {
        Check.edge(49, "NONE for others.");
        for (int what : new int[] {Integer.MIN_VALUE, -2, -1, 9, 10, Integer.MAX_VALUE}) {
            Check.due("count(" + what + ")", plain().count(what), -1);
            Check.due("count(" + what + ")", new DegreeLaws().count(what), -1);
        }
    }
}
