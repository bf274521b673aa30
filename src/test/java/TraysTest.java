/** Promises 44 to 49: trays, images, counts. */
public final class TraysTest {
    private static final String PLAIN =
        "ward 10;ward 20 beside 0;ward 30 beside 1;act 1 from 10 to 19 fine 5;"
        + "act 1 from 15 to 30 fine 7;act 2 from 20 to 99 fine 9;degree:base+fire-ice+hour;";

    public static void main(String[] args) {
        trays();
        writing();
        copying();
        images();
        imagesOfOtherLands();
        counts();
        Check.end();
    }

    private static void trays() {
        DegreeLaws x = Check.landOf(PLAIN);
        x.tray(3, 2, 2);
        Check.due("write", x.write(3, 1, 7), 7);
        x.tray(3, 2, 2);
        // 0 is no told one: both places are 0 again
        Check.due("rows of 0s", x.judge(3, 0), 0);
        x.write(3, 0, -1);
        Check.due("rows of 0s", x.judge(3, 0), 1);
        x.tray(3, 0, 30);
        Check.due("place 29", x.write(3, 29, 1), 1);
        x.tray(3, 3, 0);
        Check.due("an empty one", x.perform(3), 0);
        Check.refusedVoid("tray(4, 4, 31)", x, Check.NSE, () -> x.tray(4, 4, 31));
        Check.refusedVoid("tray(-1, 0, 0)", x, Check.NSE, () -> x.tray(-1, 0, 0));
        Check.refusedVoid("tray(0, 4, 1)", x, Check.IAE, () -> x.tray(0, 4, 1));
        Check.refusedVoid("tray(0, -1, 1)", x, Check.IAE, () -> x.tray(0, -1, 1));
        Check.refusedVoid("tray(0, 0, 31)", x, Check.IAE, () -> x.tray(0, 0, 31));
        Check.refusedVoid("tray(0, 0, -1)", x, Check.IAE, () -> x.tray(0, 0, -1));
        Check.trayOf(x, 1, -1);
        Check.refusedVoid("tray(1, 4, 1)", x, Check.IAE, () -> x.tray(1, 4, 1));
        Check.due("it stays", x.judge(1, 2), 1);
    }

    private static void writing() {
        DegreeLaws x = new DegreeLaws();
        long[] v = {300, 128, 255, -129, 40002, 1L << 31, -1, Long.MIN_VALUE, Long.MAX_VALUE, 0x123456789abcdef0L};
        for (int sort = 0; sort < 4; sort++) {
            x.tray(sort, sort, 3);
            for (long one : v) {
                long want = sort == 0 ? (byte) one : sort == 1 ? (short) one : sort == 2 ? (int) one : one;
                Check.due("write " + one, x.write(sort, 2, one), want);
            }
        }
        Check.due("cut to 8 bits", x.write(0, 0, 200), -56);
        Check.due("cut to 16 bits", x.write(1, 0, 40002), -25534);
        Check.due("cut to 32 bits", x.write(2, 0, 4294967295L), -1);
        // what stands there is what was answered: -1 is an hour
        x.write(2, 1, -1);
        Check.due("as it is there", x.judge(2, 0), 2);
        Check.refused("write(4, 9, 1)", x, Check.NSE, () -> x.write(4, 9, 1));
        Check.refused("write(-1, 0, 1)", x, Check.NSE, () -> x.write(-1, 0, 1));
        Check.refused("write(0, 3, 1)", x, Check.IOOBE, () -> x.write(0, 3, 1));
        Check.refused("write(0, -1, 1)", x, Check.IOOBE, () -> x.write(0, -1, 1));
        DegreeLaws y = new DegreeLaws();
        Check.refused("write(0, -1, 1)", y, Check.ISE, () -> y.write(0, -1, 1));
    }

    private static void copying() {
        DegreeLaws x = Check.landOf("ward 1;ward 2;degree:1+hour*100+ward*0;");
        x.tray(0, 0, 5);
        Check.due("copy", x.copy(0, 0), 5);
        // the degrees are 1, 99, 99 .. : deeds of an hour and of 99 hours
        Check.due("degree 1 first", x.judge(0, 0), 1);
        DegreeLaws y = Check.landOf("ward 1;act 1 from 0 to 99 fine 7;degree:1+hour;");
        y.tray(0, 0, 4);
        Check.due("copy", y.copy(0, 0), 4);
        // 1, 2, 3, 4: deeds of kind 0 for so many hours
        Check.due("all can be", y.judge(0, 0), -1);
        Check.due("ten hours", y.judge(0, 2), 10);
        y.hours(2);
        y.copy(0, 0);
        Check.due("3, 4, 5, 6 from now on", y.judge(0, 2), 2 + 18);
        y.tray(1, 3, 0);
        Check.due("no places", y.copy(1, 0), 0);
        y.tray(1, 1, 30);
        Check.due("30 places", y.copy(1, 0), 30);
        Check.refused("copy(4, 0)", y, Check.NSE, () -> y.copy(4, 0));
        Check.refused("copy(-1, 0)", y, Check.NSE, () -> y.copy(-1, 0));
        Check.refused("copy(2, 1)", y, Check.NSE, () -> y.copy(2, 1));
        Check.refused("copy(2, 0)", y, Check.ISE, () -> y.copy(2, 0));
    }

    private static String rest(DegreeLaws x) {
        StringBuilder b = new StringBuilder();
        for (int i = 0; i < 8; i++) {
            b.append(x.count(i)).append(' ');
        }
        // without the first row, which has the tape and the fault, and without the trays
        String[] rows = Check.portrait(x).split("\n");
        for (int i = 1; i < rows.length - 4; i++) {
            b.append(rows[i]).append('\n');
        }
        return b.toString();
    }

    private static void images() {
        DegreeLaws x = Check.landOf(PLAIN);
        x.fire(0, 7, 40);
        x.hours(3);
        String first = rest(x);
        x.image(0);
        x.amend(0, 1, 98);
        x.repeal(1);
        x.ice(2, 9, 9);
        x.done(2, 2, 5);
        String second = rest(x);
        x.image(2);
        Check.trayOf(x, 3, -1, -1);
        x.feed(1, 2, 3, 4, 5);
        x.restore(0);
        Check.due("as in image 0", rest(x).equals(first) ? 1 : 0, 1);
        Check.due("trays stay", x.judge(3, 2), 5);
        Check.due("the tape stays", x.count(8), 20);
        Check.due("two can be undone", x.undo(1), 1);
        Check.due("HOUR", x.count(4), 0);
        x.restore(2);
        Check.due("as in image 2", rest(x).equals(second) ? 1 : 0, 1);
        x.undo(4);
        Check.due("back to what image 0 is", rest(x).equals(first) ? 1 : 0, 1);
        x.restore(2);
        x.season(77, 30);
        x.restore(2);
        x.undo(3);
        Check.due("what can be undone is of the image too", x.act(0, 2), 98);
        Check.due("what can be undone is of the image too", x.act(1, 4), 0);
        x.undo(1);
        Check.due("back to what image 0 is", rest(x).equals(first) ? 1 : 0, 1);
        x.season(3, 30);
        x.image(2);
        String third = rest(x);
        x.restore(0);
        x.hours(9);
        x.restore(2);
        Check.due("made anew", rest(x).equals(third) ? 1 : 0, 1);
        Check.refusedVoid("restore(1)", x, Check.ISE, () -> x.restore(1));
        Check.refusedVoid("restore(3)", x, Check.NSE, () -> x.restore(3));
        Check.refusedVoid("restore(-1)", x, Check.NSE, () -> x.restore(-1));
        Check.refusedVoid("image(3)", x, Check.NSE, () -> x.image(3));
        Check.refusedVoid("image(-1)", x, Check.NSE, () -> x.image(-1));
    }

    private static void imagesOfOtherLands() {
        DegreeLaws x = new DegreeLaws();
        x.hours(4);
        x.image(1);
        Check.landText(x, PLAIN + "prevails:act=1;whole;");
        Check.due("code", x.code(0, 7), 2);
        x.image(0);
        Check.landText(x, "ward 15;act 1 from 10 to 19 fine 5;act 1 from 15 to 30 fine 7;prevails:act=0;hour 7;");
        Check.due("code", x.code(0, 0), 1);
        Check.landText(x, "ward 100;");
        x.restore(0);
        Check.due("WARDS", x.count(1), 3);
        Check.due("LINES", x.count(0), 9);
        Check.due("whole", x.count(6), 1);
        Check.due("HOUR", x.count(4), 0);
        Check.due("the law of that land", x.code(0, 7), 2);
        Check.due("the fault stays", x.fault(0), 3);
        Check.due("its place stays", x.fault(1), 5);
        x.restore(1);
        Check.due("no land", x.count(1), 0);
        Check.due("HOUR", x.count(4), 4);
        Check.due("undo(1)", x.undo(1), 0);
        Check.due("HOUR", x.count(4), 0);
    }

    private static void counts() {
        DegreeLaws x = Check.landOf(PLAIN + "hour 20;whole;");
        x.repeal(0);
        x.done(1, 0, 2);
        x.feed(0, 0, 0, 0, 0);
        int[] want = {9, 3, 3, 2, 22, 7, 1, 2, 20};
        for (int i = 0; i < want.length; i++) {
            Check.due("count(" + i + ")", x.count(i), want[i]);
        }
        Check.due("count(9)", x.count(9), -1);
        Check.due("count(-1)", x.count(-1), -1);
    }
}
