/** Edges of promises 41 to 43: by how much a thermometer was breathed on. */
public final class EdgeThermometerTest {
    public static void main(String[] args) {
        seen();
        hoursAgo();
        howMany();
        notSeen();
        asToldNow();
        breath();
        look();
        numbers();
        hoursAhead();
        bounds();
        Check.end();
    }

    private static DegreeLaws land(String text, long... numbers) {
        DegreeLaws x = Check.landOf(text);
        Check.trayOf(x, 1, numbers);
        return x;
    }

    /** All d from first to last, and no other. */
    private static void found(DegreeLaws x, int kind, int w, int first, int last) {
        int many = first > last ? 0 : last - first + 1;
        Check.due("seen", x.seen(1, kind, w), many);
        for (int k = 0; k < many; k++) {
            Check.due("breath " + k, x.breath(1, kind, w, k), first + k);
        }
        Check.due("breath " + many, x.breath(1, kind, w, many), 99);
    }

    private static void seen() {
        Check.edge(41, "SEEN: how many d.");
        String text = "ward 50;act 1 from 40 to 60 fine 7;hour 1;";
        found(land(text, 7), 1, 0, -10, 10);
        found(land(text, 8), 1, 0, 1, 0);
        found(land(text, -1), 1, 0, -20, 20);
        found(land(text, 0), 2, 0, -20, 20);
        DegreeLaws both = land(text, 0);
        Check.due("below and above", both.seen(1, 1, 0), 20);
        Check.due("the last below", both.breath(1, 1, 0, 9), -11);
        Check.due("the first above", both.breath(1, 1, 0, 10), 11);
        found(land("ward 50;act 1 from 30 to 99 fine 7;hour 1;", 7), 1, 0, -20, 20);
        found(land("ward 50;act 1 from 31 to 69 fine 7;hour 1;", 7), 1, 0, -19, 19);
        // FINES of all ACTS IN FORCE together
        found(land("ward 50;act 1 from 40 to 60 fine 7;act 1 from 55 to 70 fine 2;hour 1;", 9), 1, 0, 5, 10);
        found(land("ward 50;act 1 from 40 to 60 fine 7;act 1 from 55 to 70 fine 2;hour 1;prevails:many=1;", 2), 1, 0, 11, 20);
        // an act with FINE 0 is as good as none here
        found(land("ward 50;act 1 from 40 to 60 fine 0;hour 1;", 0), 1, 0, -20, 20);
        StringBuilder most = new StringBuilder("ward 50;hour 1;");
        for (int a = 0; a < 8; a++) {
            most.append("act 1 from 50 to 50 fine 99;");
        }
        found(land(most.toString(), 792), 1, 0, 0, 0);
        found(land(most.toString(), 791), 1, 0, 1, 0);
    }

    private static void hoursAgo() {
        Check.edge(0, "FINES of a KIND there in HOURS 1, 2 .. ago");
        // degree is hour and 40: act at 60 alone
        String text = "ward 40;act 1 from 60 to 60 fine 3;degree:base+hour;hour 30;";
        // an hour ago it was 45 (hour 5), 2 ago 44 .. 24 hours ago 46 (hour 6 of the day ahead)
        found(land(text, 3), 1, 0, 15, 15);
        found(land(text, 0, 3), 1, 0, 16, 16);
        long[] day = new long[24];
        day[23] = 3;
        found(land(text, day), 1, 0, 14, 14);
        day[22] = 3;
        found(land(text, day), 1, 0, 1, 0);
        // hour 23, 7 hours ago, was 63
        found(land(text, 0, 0, 0, 0, 0, 0, 3), 1, 0, -3, -3);
        // the law prevails by the hour of then
        String morning = "ward 40;act 1 from 0 to 99 fine 3;prevails:hour<12;hour 13;";
        found(land(morning, 0, 3), 1, 0, -20, 20);
        found(land(morning, 3, 0), 1, 0, 1, 0);
        found(land("ward 10;ward 50;act 1 from 50 to 50 fine 3;hour 1;", 3), 1, 1, 0, 0);
        found(land("ward 10;ward 50;act 1 from 50 to 50 fine 3;hour 1;", 3), 1, 0, 1, 0);
    }

    private static void howMany() {
        Check.edge(0, "SEEN in a TRAY (1 to 24 numbers: FINES");
        long[] day = new long[24];
        found(land("ward 50;act 1 from 60 to 60 fine 3;hour 24;", 0), 2, 0, -20, 20);
        found(land("ward 50;act 1 from 60 to 60 fine 3;hour 24;", day), 2, 0, -20, 20);
        Check.due("no numbers", Check.thrownBy(() -> land("ward 50;hour 24;").seen(1, 1, 0)), Check.IAE);
        Check.due("25 numbers", Check.thrownBy(() -> land("ward 50;hour 99;", new long[25]).seen(1, 1, 0)), Check.IAE);
        Check.edge(0, "HOURS ahead of HOUR 0: none such");
        // 24 numbers in HOUR 24: the last is of HOUR 0
        Check.due("HOUR 0", land("ward 50;hour 24;", day).seen(1, 1, 0), 41);
        Check.due("ahead of HOUR 0", Check.thrownBy(() -> land("ward 50;hour 23;", day).seen(1, 1, 0)), Check.IAE);
        day[23] = -1;
        Check.due("NONE ahead of HOUR 0", land("ward 50;hour 23;", day).seen(1, 1, 0), 41);
    }

    private static void notSeen() {
        Check.edge(0, "NONE: not seen");
        String text = "ward 40;act 1 from 60 to 60 fine 3;degree:base+hour;hour 30;";
        found(land(text, -1, -1, 3), 1, 0, 17, 17);
        found(land(text, 3, -1, 0), 1, 0, 15, 15);
        long[] none = new long[24];
        java.util.Arrays.fill(none, -1);
        found(land(text, none), 1, 0, -20, 20);
        none[23] = 3;
        found(land(text, none), 1, 0, 14, 14);
    }

    private static void asToldNow() {
        Check.edge(0, "all d by which it were so, all else being as told now (FIRE, ICE from when they were laid on)");
        String text = "ward 50;act 1 from 60 to 60 fine 3;";
        DegreeLaws x = Check.landOf(text);
        x.hours(3);
        x.fire(0, 10, 2);
        x.hours(4);
        // HOURS 6, 5 (50), 4, 3 (60), 2, 1, 0 (50)
        Check.trayOf(x, 1, 0, 0, 3, 3, 0, 0, 0);
        found(x, 1, 0, 0, 0);
        Check.trayOf(x, 1, 3, 3, 0, 0, 3, 3, 3);
        found(x, 1, 0, 10, 10);
        // the ice comes from this hour on: hours ago stay as they are
        x.ice(0, 10, 9);
        found(x, 1, 0, 10, 10);
        // a later fire strikes: none was laid on then
        x.fire(0, 30, 9);
        found(x, 1, 0, 1, 0);
        Check.trayOf(x, 1, 3, 3, 3, 3, 3, 3, 3);
        found(x, 1, 0, 10, 10);
        // an ACT amended or repealed now is so for HOURS ago too
        x.amend(0, 55, 55);
        found(x, 1, 0, 5, 5);
        x.repeal(0);
        found(x, 1, 0, 1, 0);
        Check.trayOf(x, 1, 0, 0);
        found(x, 1, 0, -20, 20);
        DegreeLaws ice = Check.landOf(text);
        ice.ice(0, 10, 3);
        ice.hours(4);
        // HOUR 3 was 50, HOURS 2, 1, 0 were 40
        Check.trayOf(ice, 1, 3, 0, 0, 0);
        found(ice, 1, 0, 10, 10);
        Check.trayOf(ice, 1, 0, 3, 3, 3);
        found(ice, 1, 0, 20, 20);
    }

    private static void breath() {
        Check.edge(42, "The k-th of these, from the least on; 99: not so many.");
        DegreeLaws x = land("ward 50;act 1 from 40 to 60 fine 7;hour 1;", -1);
        for (int k = 0; k <= 40; k++) {
            Check.due("breath " + k, x.breath(1, 1, 0, k), k - 20);
        }
        Check.due("breath 41", x.breath(1, 1, 0, 41), 99);
        Check.due("breath of the last int", x.breath(1, 1, 0, Integer.MAX_VALUE), 99);
        Check.due("of none", land("ward 50;hour 1;", 5).breath(1, 1, 0, 0), 99);
        Check.due("alone, ahead of any other", land("ward 50;act 1 from 60 to 60 fine 7;hour 1;", 7).breath(1, 1, 0, 0), 10);
        Check.edge(42, "IllegalArgumentException: as seen(), k is below 0.");
        for (int k : new int[] {Integer.MIN_VALUE, -1}) {
            Check.refusedOf("breath(1, 1, 0, " + k + ")", EdgeThermometerTest::plain, Check.IAE, y -> y.breath(1, 1, 0, k));
            Check.refusedOf("breath(0, 1, 0, " + k + ")", EdgeThermometerTest::plain, Check.ISE, y -> y.breath(0, 1, 0, k));
            Check.refusedOf("breath(1, 1, 2, " + k + ")", EdgeThermometerTest::plain, Check.NSE, y -> y.breath(1, 1, 2, k));
        }
    }

    private static void look() {
        Check.edge(43, "The HOUR to come (in 0 to 24) that tells most: in which the greatest number of these d that make one and the same FINE "
            + "is least, the first: in how many HOURS; NONE: there are none.");
        Check.due("there are none", land("ward 50;act 1 from 50 to 50 fine 1;hour 1;", 2).look(1, 1, 0), -1);
        Check.due("all alike: the first", land("ward 50;hour 1;", -1).look(1, 1, 0), 0);
        Check.due("of one d", land("ward 50;act 1 from 50 to 50 fine 1;hour 1;", 1).look(1, 1, 0), 0);
        // of 41 d 20 are fined at degree 19, and 21 at degree 20: the greatest number is 21 in both
        Check.due("in 19", land("ward 0;act 1 from 20 to 99 fine 1;degree:hour;", -1).look(1, 1, 0), 19);
        Check.due("in 0", land("ward 20;act 1 from 20 to 99 fine 1;", -1).look(1, 1, 0), 0);
        String next = "ward 0;act 1 from 30 to 99 fine 1;degree:day*30;";
        Check.due("in 24", land(next, -1).look(1, 1, 0), 24);
        Check.due("in 23", land(next + "hour 1;", -1).look(1, 1, 0), 23);
        DegreeLaws cold = land("ward 30;act 1 from 30 to 99 fine 1;degree:base-ice;", -1);
        cold.ice(0, 60, 24);
        Check.due("in 24, when the ICE is gone", cold.look(1, 1, 0), 24);
        cold.ice(0, 60, 25);
        Check.due("not in 25", cold.look(1, 1, 0), 0);
        DegreeLaws three = land("ward 0;act 1 from 0 to 99 fine 0;act 1 from 44 to 57 fine 1;act 1 from 58 to 99 fine 2;degree:30+hour;", -1);
        // at 49 they are 15, 14 and 12, at 50 and at 51 the greatest number is 14
        Check.due("in 20", three.look(1, 1, 0), 20);
        // these d alone: those that were not seen to be fine are out
        DegreeLaws some = land("ward 50;act 1 from 60 to 99 fine 1;act 1 from 0 to 20 fine 5;degree:50+day*ward;hour 1;", 1);
        Check.due("these d are 10 to 20: all alike", some.look(1, 1, 0), 0);
        // these d are 10 to 20: 38 is one of 26 and d in hour 2, in an hour
        DegreeLaws more = land("ward 50;act 1 from 60 to 99 fine 1;act 1 from 38 to 38 fine 7;degree:base-12*hour;hour 1;", 1);
        found(more, 1, 0, 10, 20);
        Check.due("d more, not d less", more.look(1, 1, 0), 1);
        // these d are 10 and 11: 48 and 49, 36 and 37 alike, then 24 and 25
        DegreeLaws two = land("ward 50;act 1 from 60 to 61 fine 1;act 1 from 25 to 59 fine 5;degree:base-12*hour;hour 1;", 1);
        found(two, 1, 0, 10, 11);
        Check.due("of two d", two.look(1, 1, 0), 2);
        DegreeLaws law = land("ward 50;act 1 from 50 to 99 fine 1;prevails:hour=9;hour 1;", -1);
        Check.due("by the hour of then", law.look(1, 1, 0), 8);
        DegreeLaws kept = land("ward 0;act 1 from 0 to 0 fine 1;degree:50-hour*9;", -1);
        // 41 d: at degree 5 (hour 5) d from -20 to -5 are kept at 0, 16 of 41; at 0 (hour 6 on) 21 of 41
        Check.due("kept at 0", kept.look(1, 1, 0), 6);
    }

    private static DegreeLaws plain() {
        DegreeLaws x = Check.landOf("ward 10;ward 20 beside 0;act 1 from 10 to 30 fine 5;act 2 from 20 to 99 fine 9;hour 6;");
        x.image(0);
        x.fire(0, 15, 40);
        x.repeal(1);
        Check.trayOf(x, 1, 5, -1, 0);
        return x;
    }

    private interface Asked {
        long go(DegreeLaws x, int tray, int kind, int w);
    }

    private static final Asked[] ALL = {DegreeLaws::seen, (x, tray, kind, w) -> x.breath(tray, kind, w, 0), DegreeLaws::look};

    private static void numbers() {
        String[] words = {"not 1 to 24 numbers, one is none such (0 to 792, NONE", "IllegalArgumentException: as seen()",
            "IllegalArgumentException: as seen()."};
        long[][] wrong = {{}, new long[25], new long[30], {793}, {0, 793}, {-2}, {Long.MIN_VALUE}, {Long.MAX_VALUE}, {1L << 32},
            {(1L << 32) - 1}};
        for (int i = 0; i < 3; i++) {
            Asked asked = ALL[i];
            Check.edge(41 + i, words[i]);
            for (long[] numbers : wrong) {
                Check.refusedOf(numbers.length + " numbers", () -> land("ward 50;hour 40;", numbers), Check.IAE,
                    x -> asked.go(x, 1, 1, 0));
            }
            long[] none = new long[25];
            java.util.Arrays.fill(none, -1);
            Check.refusedOf("25 of NONE", () -> land("ward 50;hour 40;", none), Check.IAE, x -> asked.go(x, 1, 1, 0));
            long[][] right = {{0}, {792}, {-1}, new long[24]};
            for (long[] numbers : right) {
                Check.due(numbers.length + " numbers", Check.thrownBy(() -> asked.go(land("ward 50;hour 40;", numbers), 1, 1, 0)), 0);
            }
        }
    }

    private static void hoursAhead() {
        String[] words = {"of HOURS ahead of HOUR 0 NONE alone", "as seen(), k is below 0", "NONE: there are none"};
        for (int i = 0; i < 3; i++) {
            Asked asked = ALL[i];
            Check.edge(41 + i, words[i]);
            for (int hour = 0; hour <= 3; hour++) {
                String text = "ward 50;hour " + hour + ";";
                for (int many = 1; many <= 4; many++) {
                    long[] zeros = new long[many];
                    int want = many > hour ? Check.IAE : 0;
                    Check.due(many + " FINES in HOUR " + hour, Check.thrownBy(() -> asked.go(land(text, zeros), 1, 1, 0)), want);
                    long[] none = new long[many];
                    java.util.Arrays.fill(none, -1);
                    Check.due(many + " of NONE in HOUR " + hour, Check.thrownBy(() -> asked.go(land(text, none), 1, 1, 0)), 0);
                    // one that was, and NONE for the others
                    none[0] = 0;
                    Check.due("one FINE in HOUR " + hour, Check.thrownBy(() -> asked.go(land(text, none), 1, 1, 0)),
                        hour == 0 ? Check.IAE : 0);
                }
                Check.refusedOf("a FINE ahead of HOUR 0", () -> land(text, -1, -1, -1, 5), Check.IAE, x -> asked.go(x, 1, 1, 0));
            }
        }
    }

    private static void bounds() {
        String[] words = {"IllegalArgumentException: the KIND, not 1 to 24 numbers", "The k-th of these", "The HOUR to come"};
        for (int i = 0; i < 3; i++) {
            Asked asked = ALL[i];
            Check.edge(41 + i, words[i]);
            for (int v : new int[] {Integer.MIN_VALUE, -1, 10, Integer.MAX_VALUE}) {
                Check.refusedOf("KIND " + v, EdgeThermometerTest::plain, Check.IAE, x -> asked.go(x, 1, v, 0));
                Check.refusedOf("KIND " + v + ", MISSING", EdgeThermometerTest::plain, Check.ISE, x -> asked.go(x, 0, v, 0));
                Check.refusedOf("KIND " + v + ", WARD 2", EdgeThermometerTest::plain, Check.NSE, x -> asked.go(x, 1, v, 2));
            }
            for (int v : new int[] {Integer.MIN_VALUE, -1, 2, Integer.MAX_VALUE}) {
                Check.refusedOf("WARD " + v, EdgeThermometerTest::plain, Check.NSE, x -> asked.go(x, 1, 1, v));
                Check.refusedOf("WARD " + v + ", MISSING", EdgeThermometerTest::plain, Check.NSE, x -> asked.go(x, 0, 1, v));
            }
            for (int v : new int[] {Integer.MIN_VALUE, -1, 4, Integer.MAX_VALUE}) {
                Check.refusedOf("TRAY " + v, EdgeThermometerTest::plain, Check.NSE, x -> asked.go(x, v, 10, 0));
            }
            for (int v : new int[] {0, 2, 3}) {
                Check.refusedOf("TRAY " + v, EdgeThermometerTest::plain, Check.ISE, x -> asked.go(x, v, 1, 0));
            }
            Check.due("the last of each", Check.thrownBy(() -> asked.go(plain(), 1, 9, 1)), 0);
            Check.due("the first of each", Check.thrownBy(() -> asked.go(plain(), 1, 0, 0)), 0);
        }
    }
}
