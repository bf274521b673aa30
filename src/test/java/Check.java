import java.nio.charset.StandardCharsets;
import java.util.NoSuchElementException;

/** What the tests have in common: lands from texts, calls with the answers that are due, and the exit code. */
final class Check {
    interface Call {
        long go();
    }

    interface VoidCall {
        void go();
    }

    static final int NSE = 1;
    static final int ISE = 2;
    static final int IAE = 3;
    static final int IOOBE = 4;

    interface Maker {
        DegreeLaws make();
    }

    interface CallOf {
        long go(DegreeLaws x);
    }

    private static int right = 0;
    private static int wrong = 0;
    private static String heading = "";
    private static boolean checkedHere = true;

    private Check() {
    }

    /** The test of one sentence of the document begins: of promise 1 to 49, or of the Terms (0). */
    static void edge(int promise, String words) {
        endEdge();
        heading = (promise == 0 ? "Terms" : "Promise " + promise) + " [" + words + "] ";
        checkedHere = false;
    }

    private static void endEdge() {
        if (!checkedHere) {
            wrong++;
            System.out.println(heading + "nothing was checked");
        }
    }

    static void due(String what, long got, long want) {
        checkedHere = true;
        if (got == want) {
            right++;
        } else {
            wrong++;
            System.out.println(heading + what + " answered " + got + ", due is " + want);
        }
    }

    /** Which exception a call throws: 0 for none, 9 for one that the document doesn't name. */
    static int thrownBy(Call call) {
        try {
            call.go();
            return 0;
        } catch (RuntimeException e) {
            return numberOf(e);
        }
    }

    static int numberOf(RuntimeException e) {
        Class<?> c = e.getClass();
        if (c == NoSuchElementException.class) {
            return NSE;
        }
        if (c == IllegalStateException.class) {
            return ISE;
        }
        if (c == IllegalArgumentException.class) {
            return IAE;
        }
        // The machine's own exceptions are of classes below this one.
        return c == IndexOutOfBoundsException.class ? IOOBE : 9;
    }

    /** A call throws just this, and nothing that can be asked for has changed then. */
    static void refused(String what, DegreeLaws x, int want, Call call) {
        String ahead = portrait(x);
        due(what + " throws (1 NoSuchElement, 2 IllegalState, 3 IllegalArgument, 4 IndexOutOfBounds)", thrownBy(call), want);
        due(what + " changes something", portrait(x).equals(ahead) ? 0 : 1, 0);
    }

    static void refusedVoid(String what, DegreeLaws x, int want, VoidCall call) {
        refused(what, x, want, () -> {
            call.go();
            return 0;
        });
    }

    /** A call throws just this, and a twin that it was never made on answers all alike then, to whatever is asked. */
    static void refusedOf(String what, Maker maker, int want, CallOf call) {
        DegreeLaws x = maker.make();
        due(what + " throws (1 NoSuchElement, 2 IllegalState, 3 IllegalArgument, 4 IndexOutOfBounds)",
            thrownBy(() -> call.go(x)), want);
        due(what + " changes something", spend(x).equals(spend(maker.make())) ? 0 : 1, 0);
    }

    /** As much as a few calls can tell. */
    static String sketch(DegreeLaws x) {
        StringBuilder b = new StringBuilder();
        for (int i = 0; i < 9; i++) {
            b.append(x.count(i)).append(' ');
        }
        b.append(x.fault(0)).append(' ').append(x.fault(1));
        for (int w = 0; w < x.count(1); w++) {
            b.append('\n');
            for (int i = 0; i < 6; i++) {
                b.append(x.ward(w, i)).append(' ');
            }
            b.append(x.degree(w, 0)).append('/').append(x.code(w, 0)).append(' ');
            b.append(x.degree(w, 7)).append('/').append(x.code(w, 7));
        }
        for (int a = 0; a < x.count(2); a++) {
            b.append('\n');
            for (int i = 0; i < 5; i++) {
                b.append(x.act(a, i)).append(' ');
            }
        }
        return b.append('\n').toString();
    }

    private static void sketchWithUndone(StringBuilder b, DegreeLaws x) {
        b.append(sketch(x));
        while (x.count(7) > 0) {
            b.append("undone ").append(x.undo(1)).append('\n').append(sketch(x));
        }
    }

    /** Whatever can be asked for at all: trays, what can be undone, images and the tape too. The object is spent then. */
    static String spend(DegreeLaws x) {
        StringBuilder b = new StringBuilder();
        for (int t = 0; t < 4; t++) {
            tellTray(b, x, t);
        }
        sketchWithUndone(b, x);
        for (int i = 0; i < 3; i++) {
            int image = i;
            int none = thrownBy(() -> {
                x.restore(image);
                return 0;
            });
            b.append("image ").append(none).append('\n');
            if (none == 0) {
                sketchWithUndone(b, x);
            }
        }
        b.append("land ").append(x.land(x.count(8))).append('\n').append(sketch(x));
        return b.toString();
    }

    /** Judged once for each place, all places ahead of it being hours, so that each number tells something. */
    private static void tellTray(StringBuilder b, DegreeLaws x, int tray) {
        int missing = thrownBy(() -> x.judge(tray, 0));
        b.append("tray ").append(missing);
        for (int place = 0; place <= 30 && missing == 0; place++) {
            for (int i = 0; i < 4; i++) {
                b.append(' ').append(x.judge(tray, i));
            }
            int at = place;
            // the first place tells how numbers are cut
            if (place == 0 && thrownBy(() -> x.write(tray, 0, 0)) == 0) {
                b.append(" cut ").append(x.write(tray, 0, 0x123456789abcdef0L));
            }
            missing = thrownBy(() -> x.write(tray, at, -1));
        }
        b.append('\n');
    }

    /** All that can be asked for without changing anything. */
    static String portrait(DegreeLaws x) {
        StringBuilder b = new StringBuilder();
        for (int i = 0; i < 9; i++) {
            b.append(x.count(i)).append(' ');
        }
        b.append(x.fault(0)).append(' ').append(x.fault(1)).append('\n');
        for (int w = 0; w < x.count(1); w++) {
            for (int i = 0; i < 6; i++) {
                b.append(x.ward(w, i)).append(' ');
            }
            for (int n = 0; n < 30; n++) {
                b.append(x.degree(w, n)).append('/').append(x.code(w, n)).append(' ');
            }
            b.append('\n');
        }
        for (int a = 0; a < x.count(2); a++) {
            for (int i = 0; i < 5; i++) {
                b.append(x.act(a, i)).append(' ');
            }
        }
        for (int t = 0; t < 4; t++) {
            int tray = t;
            // Told or missing; where numbers stand, judging them tells something of them.
            b.append('\n').append(thrownBy(() -> x.judge(tray, 0)));
            if (thrownBy(() -> x.judge(tray, 0)) == 0) {
                for (int i = 0; i < 4; i++) {
                    b.append(' ').append(x.judge(t, i));
                }
            }
        }
        return b.toString();
    }

    static int feedText(DegreeLaws x, String text) {
        byte[] bytes = text.getBytes(StandardCharsets.ISO_8859_1);
        for (int at = 0; at < bytes.length; at += 20) {
            int[] five = new int[5];
            for (int k = 0; k < 20; k++) {
                int b = at + k < bytes.length ? bytes[at + k] & 255 : 32;
                five[k / 4] = five[k / 4] << 8 | b;
            }
            x.feed(five[0], five[1], five[2], five[3], five[4]);
        }
        return bytes.length;
    }

    static int landText(DegreeLaws x, String text) {
        return x.land(feedText(x, text));
    }

    static DegreeLaws landOf(String text) {
        DegreeLaws x = new DegreeLaws();
        int lines = landText(x, text);
        if (lines < 0) {
            wrong++;
            System.out.println("the land " + text + " has fault " + x.fault(0) + " at " + x.fault(1));
        }
        return x;
    }

    /** A tray of 64 bits that holds just these. */
    static void trayOf(DegreeLaws x, int tray, long... numbers) {
        x.tray(tray, 3, numbers.length);
        for (int i = 0; i < numbers.length; i++) {
            x.write(tray, i, numbers[i]);
        }
    }

    static void end() {
        endEdge();
        checkedHere = true;
        System.out.println(right + " right, " + wrong + " wrong");
        if (wrong > 0) {
            System.exit(1);
        }
    }
}
