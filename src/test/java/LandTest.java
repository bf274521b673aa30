/** Promises 1 to 10: the land, its faults, degrees, codes and fines. */
public final class LandTest {
    private static final String PLAIN =
        "ward 10;ward 20 beside 0;ward 30 beside 1;act 1 from 10 to 19 fine 5;"
        + "act 1 from 15 to 30 fine 7;act 2 from 20 to 99 fine 9;degree:base+fire-ice+hour;";

    public static void main(String[] args) {
        aNewObject();
        feeding();
        landing();
        faultsOfTokens();
        faultsOfPlaces();
        faultsOfBounds();
        faultsOfTooMany();
        cutTexts();
        fiveWards();
        prevailingByHour();
        wards();
        acts();
        degrees();
        sumsAreKept();
        truths();
        codes();
        finesAndLawful();
        Check.end();
    }

    private static void aNewObject() {
        DegreeLaws x = new DegreeLaws();
        for (int i = 0; i <= 8; i++) {
            Check.due("new: count(" + i + ")", x.count(i), 0);
        }
        Check.due("new: fault(0)", x.fault(0), 0);
        Check.due("new: fault(1)", x.fault(1), -1);
        Check.due("NONE", DegreeLaws.NONE, -1);
        for (int t = 0; t < 4; t++) {
            int tray = t;
            Check.refused("new: perform", x, Check.ISE, () -> x.perform(tray));
        }
        Check.refused("new: ward", x, Check.NSE, () -> x.ward(0, 0));
        Check.refused("new: act", x, Check.NSE, () -> x.act(0, 0));
        Check.refusedVoid("new: restore", x, Check.ISE, () -> x.restore(0));
    }

    private static void feeding() {
        DegreeLaws x = new DegreeLaws();
        for (int i = 1; i <= 45; i++) {
            Check.due("feed", x.feed(0x20202020, 0x20202020, 0x20202020, 0x20202020, 0x20202020), 20 * i);
        }
        Check.due("feed beyond 900", x.feed(1, 2, 3, 4, 5), -1);
        Check.due("count(8)", x.count(8), 900);
        Check.due("land of 900 blanks", x.land(900), 0);
        Check.due("the tape is empty then", x.count(8), 0);
        // "hour 258;" with the highest byte first, and bytes of 128 and more
        Check.due("feed", x.feed(0x686f7572, 0x20323538, 0x3b000000, 0x80ff0000, 0x20202020), 20);
        Check.due("land(9)", x.land(9), 1);
        Check.due("HOUR", x.count(4), 258);
        x.feed(0x686f7572, 0x20323538, 0x3b000000, 0x80ff0000, 0x20202020);
        Check.due("land(20)", x.land(20), -11);
        Check.due("byte 0 is no token", x.fault(1), 9);
    }

    private static void landing() {
        DegreeLaws x = Check.landOf(PLAIN);
        Check.due("LINES", x.count(0), 7);
        x.fire(0, 5, 5);
        x.done(1, 1, 1);
        x.feed(0x20202020, 0, 0, 0, 0);
        Check.refused("land(-1)", x, Check.IAE, () -> x.land(-1));
        Check.refused("land(21)", x, Check.IAE, () -> x.land(21));
        String ahead = Check.portrait(x).replaceFirst(".*\n", "");
        Check.due("land(20)", x.land(20), -11);
        Check.due("its fault", x.fault(0), 1);
        Check.due("its place", x.fault(1), 4);
        Check.due("fault(2)", x.fault(2), -1);
        Check.due("fault(-1)", x.fault(-1), -1);
        Check.due("all else stays", Check.portrait(x).replaceFirst(".*\n", "").equals(ahead) ? 1 : 0, 1);
        Check.due("PAID stays", x.count(5), 7);
        Check.due("DEEDS stay", x.count(7), 2);
        Check.due("the tape is empty", x.count(8), 0);
        Check.due("a new land", Check.landText(x, "ward 7;hour 3;\nwhole ; hour 12;"), 4);
        Check.due("its fault", x.fault(0), 0);
        Check.due("its place", x.fault(1), -1);
        Check.due("WARDS", x.count(1), 1);
        Check.due("ACTS", x.count(2), 0);
        Check.due("HOUR", x.count(4), 12);
        Check.due("PAID", x.count(5), 0);
        Check.due("whole", x.count(6), 1);
        Check.due("none UNDONE", x.count(7), 0);
        Check.due("no FIRE", x.ward(0, 4), 0);
        x.feed(0x77617264, 0x20313b77, 0x61726420, 0x323b2020, 0x20202020);
        Check.due("the first n bytes alone", x.land(7), 1);
        Check.due("measured begun again", x.count(6), 0);
        Check.due("HOUR 0 again", x.count(4), 0);
    }

    private static void fault(String text, int kind, int place) {
        DegreeLaws x = new DegreeLaws();
        Check.due("land " + text, Check.landText(x, text), -10 - kind);
        Check.due("fault(0) of " + text, x.fault(0), kind);
        Check.due("fault(1) of " + text, x.fault(1), place);
        Check.due("no WARDS by " + text, x.count(1), 0);
    }

    private static void stands(String text, int lines) {
        DegreeLaws x = new DegreeLaws();
        Check.due("land " + text, Check.landText(x, text), lines);
        Check.due("fault(1) of " + text, x.fault(1), -1);
    }

    private static void faultsOfTokens() {
        fault("Ward 1;", 1, 0);
        fault("ward\t1;", 1, 4);
        fault("ward 1;\r", 1, 7);
        fault("ward 1,", 1, 6);
        fault("ward 0001;", 1, 5);
        fault("ward 12345 ?", 1, 5);
        fault("degree:1/2;", 1, 8);
        fault("degree:base @", 1, 12);
        fault("prevails:1<\u00e4;", 1, 11);
        fault("prevails:{1=1};", 1, 9);
        fault("whole 1234", 1, 6);
        stands("ward 007;", 1);
        stands("ward1;ward2beside0;act3from4to5fine6;degree:base+1;hour12;", 5);
        stands(" \n ward \n 1 \n ; \n ", 1);
        stands("", 0);
    }

    private static void faultsOfPlaces() {
        fault(";", 2, 0);
        fault("ward 1;;", 2, 7);
        fault("wards 1;", 2, 0);
        fault("war 1;", 2, 0);
        fault("base 1;", 2, 0);
        fault("wardz 1;", 2, 0);
        fault("zward 1;", 2, 0);
        fault("awhole;", 2, 0);
        fault("1;", 2, 0);
        fault("ward;", 2, 4);
        fault("ward beside 0;", 2, 5);
        fault("ward 1 2;", 2, 7);
        fault("ward 1;ward 1 beside;", 2, 20);
        fault("ward 1;ward 1 beside 0 beside 0;", 2, 23);
        fault("ward 1  ", 2, 8);
        fault("ward", 2, 4);
        fault("act 1 to 2;", 2, 6);
        fault("act 1 from 2 fine 1;", 2, 13);
        fault("act 1 from 2 to 3 fines 1;", 2, 18);
        fault("degree base;", 2, 7);
        fault("degree:;", 2, 7);
        fault("degree:act;", 2, 7);
        fault("degree:many;", 2, 7);
        fault("degree:not 1;", 2, 7);
        fault("degree:[1];", 2, 7);
        fault("degree:1+;", 2, 9);
        fault("degree:1 2;", 2, 9);
        fault("degree:-1;", 2, 7);
        fault("degree:(1;", 2, 9);
        fault("degree:1);", 2, 8);
        fault("degree:1 or 1;", 2, 9);
        fault("prevails:day=1;", 2, 9);
        fault("prevails:fire=1;", 2, 9);
        fault("prevails:ice=1;", 2, 9);
        fault("prevails:1=1=1;", 2, 12);
        fault("prevails:(1=1);", 2, 11);
        fault("prevails:[1];", 2, 11);
        fault("prevails:[1=1;", 2, 13);
        fault("prevails:1=1 and;", 2, 16);
        fault("prevails:1=1 or or;", 2, 16);
        fault("prevails:not;", 2, 12);
        fault("prevails:1<not 1=1;", 2, 11);
        fault("prevails:1=[1=1];", 2, 11);
        fault("prevails:kind", 2, 13);
        fault("hour;", 2, 4);
        fault("begun begun;", 2, 6);
        stands("degree:base+fire-ice*hour-(day*ward);prevails:act+kind*fine=span and many>hour or ward<1;", 2);
        stands("prevails:not[1=1 or not 2<3]and[(1)=(((2)))];", 1);
    }

    private static void faultsOfBounds() {
        fault("ward 100;", 3, 5);
        stands("ward 99;", 1);
        fault("ward 1 beside 0;", 3, 14);
        fault("ward 1;ward 1 beside 0 1;", 3, 23);
        fault("ward 1;ward 1 beside 999;", 3, 21);
        fault("act 10 from 1 to 2 fine 1;", 3, 4);
        fault("act 9 from 100 to 2 fine 1;", 3, 11);
        fault("act 9 from 5 to 4 fine 1;", 3, 16);
        fault("act 9 from 5 to 100 fine 1;", 3, 16);
        fault("act 9 from 5 to 5 fine 100;", 3, 23);
        stands("act 9 from 5 to 5 fine 99;act 0 from 0 to 99 fine 0;", 2);
        stands("hour 999;", 1);
        fault("hour 1000;", 1, 5);
        // the first fault along the text comes, whatever its kind
        fault("ward 100;?", 3, 5);
        fault("ward 1;ward 2 beside 5;ward;", 3, 21);
        fault("act 10 ?", 3, 4);
    }

    private static void faultsOfTooMany() {
        String five = "ward 1;ward 1;ward 1;ward 1;ward 1;";
        stands(five, 5);
        fault(five + "ward 1;", 4, 35);
        fault(five + "ward", 4, 35);
        fault(five + "wards", 2, 35);
        String act = "act 1 from 1 to 2 fine 1;";
        String eight = act + act + act + act + act + act + act + act;
        stands(eight, 8);
        fault(eight + act, 4, 200);
        stands("degree:((((((1))))));", 1);
        fault("degree:(((((((1)))))));", 4, 13);
        stands("prevails:not[not[not(1)=1]];", 1);
        stands("prevails:[[[not not(1)=1]]];", 1);
        fault("prevails:[[[not not((1))=1]]];", 4, 20);
        fault("prevails:[[[[[[not 1=1]]]]]];", 4, 15);
        fault("prevails:[[[[[[[1=1]]]]]]];", 4, 15);
        // one behind the other, not within
        stands("prevails:not not not not not not 1=1 and not not not not not not 1=1;", 1);
        stands("degree:(((1)))+(((((2)))))*((((((3))))));", 1);
        // a seventh that can't stand there
        fault("degree:((((((1(", 2, 14);
        fault("prevails:((((((not", 2, 15);
    }

    /** What lies on the tape behind the text counts for nothing. */
    private static void cutTexts() {
        DegreeLaws x = new DegreeLaws();
        Check.feedText(x, "ward 12;");
        Check.due("ward 1", x.land(6), -12);
        Check.due("its place", x.fault(1), 6);
        Check.feedText(x, "whole;");
        Check.due("whol", x.land(4), -12);
        Check.due("its place", x.fault(1), 0);
        Check.feedText(x, "hour 1234;");
        Check.due("hour 123", x.land(8), -12);
        Check.due("its place", x.fault(1), 8);
        Check.feedText(x, "hour 12;?");
        Check.due("hour 12;", x.land(8), 1);
        Check.due("HOUR", x.count(4), 12);
    }

    private static void fiveWards() {
        DegreeLaws x = Check.landOf("ward 1;ward 2 beside 0;ward 3 beside 1;ward 4 beside 2;ward 5 beside 3 0;"
            + "act 1 from 5 to 9 fine 1;act 1 from 4 to 4 fine 1;act 1 from 5 to 5 fine 1;act 1 from 5 to 5 fine 1;"
            + "act 1 from 5 to 5 fine 1;act 1 from 5 to 5 fine 1;act 1 from 5 to 5 fine 1;act 2 from 5 to 5 fine 99;");
        for (int w = 0; w < 5; w++) {
            Check.due("degree", x.degree(w, 0), w + 1);
            Check.due("code", x.code(w, 0), w == 4 ? 0xfd : w == 3 ? 2 : 0);
        }
        Check.due("beside 4", x.ward(4, 1), 9);
        Check.due("act 7", x.fine(2, 4, 0, 1), 99);
        Check.due("amend(7)", x.amend(7, 1, 3), 3);
        Check.due("strictest", x.strictest(), 0);
        Check.due("alwaysBarred", x.alwaysBarred(), 6);
    }

    /** The law knows the hour of each hour that is asked for, not of this one. */
    private static void prevailingByHour() {
        String text = "ward 5;act 1 from 0 to 9 fine 3;prevails:hour<12;hour 6;";
        DegreeLaws x = Check.landOf(text);
        for (int n = 0; n < 30; n++) {
            boolean free = (n + 6) % 24 > 11;
            Check.due("code", x.code(0, n), free ? 0 : 1);
            Check.due("fine", x.fine(1, 0, n, 1), free ? 0 : 3);
            Check.due("lawful", x.lawful(1, 0, n, 1) ? 1 : 0, free ? 1 : 0);
            Check.due("heat", x.heat(1, 0, n, 1), free ? 0 : 5);
        }
        Check.due("soonest", x.soonest(1, 0, 1), 6);
        Check.due("cheapest", x.cheapest(1, 0, 1), 6);
        Check.due("freeHours", x.freeHours(1, 0, 24), 12);
        Check.due("spell", x.spell(1, 0, 24, 1), 6);
        Check.due("lawless", x.lawless(0), 6);
        Check.due("leastHeat", x.leastHeat(1, 0, 1), 6);
        Check.due("heaviest", x.heaviest(0), 0);
        DegreeLaws y = Check.landOf(text + "whole;");
        Check.due("whole lawful", y.lawful(1, 0, 6, 12) ? 1 : 0, 1);
        Check.due("whole lawful", y.lawful(1, 0, 6, 13) ? 1 : 0, 0);
        Check.due("whole fine", y.fine(1, 0, 0, 24), 36);
        Check.due("whole heat", y.heat(1, 0, 5, 2), 5);
    }

    private static void wards() {
        DegreeLaws x = Check.landOf("ward 10;ward 20 beside 0 0;ward 30;ward 40 beside 2 0 2;");
        int[] beside = {2 | 8, 1, 8, 1 | 4};
        for (int w = 0; w < 4; w++) {
            Check.due("BASE", x.ward(w, 0), 10 * w + 10);
            Check.due("beside " + w, x.ward(w, 1), beside[w]);
            for (int what = 2; what < 6; what++) {
                Check.due("no FIRE, no ICE", x.ward(w, what), 0);
            }
        }
        Check.refused("ward(4, 0)", x, Check.NSE, () -> x.ward(4, 0));
        Check.refused("ward(-1, 6)", x, Check.NSE, () -> x.ward(-1, 6));
        Check.refused("ward(0, 6)", x, Check.IAE, () -> x.ward(0, 6));
        Check.refused("ward(0, -1)", x, Check.IAE, () -> x.ward(0, -1));
    }

    private static void acts() {
        DegreeLaws x = Check.landOf("act 3 from 4 to 55 fine 66;act 7 from 0 to 0 fine 0;");
        int[] want = {3, 4, 55, 66, 0, 7, 0, 0, 0, 0};
        for (int i = 0; i < 10; i++) {
            Check.due("act(" + i / 5 + ", " + i % 5 + ")", x.act(i / 5, i % 5), want[i]);
        }
        Check.refused("act(2, 0)", x, Check.NSE, () -> x.act(2, 0));
        Check.refused("act(-1, 9)", x, Check.NSE, () -> x.act(-1, 9));
        Check.refused("act(1, 5)", x, Check.IAE, () -> x.act(1, 5));
        Check.refused("act(1, -1)", x, Check.IAE, () -> x.act(1, -1));
    }

    private static void degrees() {
        DegreeLaws x = Check.landOf("ward 50;ward 5;");
        Check.due("BASE without a law", x.degree(0, 999), 50);
        x.fire(0, 60, 3);
        Check.due("99 at most", x.degree(0, 2), 99);
        Check.due("fire is over", x.degree(0, 3), 50);
        x.ice(1, 6, 1);
        Check.due("0 at least", x.degree(1, 0), 0);
        x.ice(0, 15, 2);
        Check.due("fire less ice", x.degree(0, 0), 95);
        Check.due("fire less ice", x.degree(0, 1), 95);
        Check.due("fire alone", x.degree(0, 2), 99);
        DegreeLaws y = Check.landOf("ward 1;ward 2;degree:hour+day*10+ward*50;hour 22;");
        Check.due("hour 22 of day 0", y.degree(0, 0), 22);
        Check.due("hour 0 of day 1", y.degree(0, 2), 10);
        Check.due("in ward 1", y.degree(1, 3), 61);
        Check.due("hour 22 of day 6", y.degree(0, 144), 82);
        Check.refused("degree(2, 0)", y, Check.NSE, () -> y.degree(2, 0));
        Check.refused("degree(2, -1)", y, Check.NSE, () -> y.degree(2, -1));
        Check.refused("degree(0, -1)", y, Check.IAE, () -> y.degree(0, -1));
        Check.refused("degree(0, 1000)", y, Check.IAE, () -> y.degree(0, 1000));
        DegreeLaws z = Check.landOf("ward 1;degree:base+fire*2-ice*3;degree:fire*2+ice;");
        z.fire(0, 10, 1);
        z.ice(0, 7, 1);
        Check.due("the later law strikes", z.degree(0, 0), 27);
        daysGoRound();
    }

    private static void daysGoRound() {
        DegreeLaws x = Check.landOf("ward 1;degree:day-990;hour 999;");
        for (int i = 0; i < 233; i++) {
            x.hours(99);
        }
        x.hours(99);
        // 999 + 234 * 99 = 24165: day 1006, hour 21
        Check.due("HOUR", x.count(4), 24165);
        Check.due("day 6 of the next thousand", x.degree(0, 0), 0);
        DegreeLaws y = Check.landOf("ward 1;degree:day;hour 999;");
        for (int i = 0; i < 234; i++) {
            y.hours(99);
        }
        Check.due("day 6 of the next thousand", y.degree(0, 0), 6);
    }

    private static void degreeOf(String sum, int want) {
        Check.due(sum, Check.landOf("ward 3;degree:" + sum + ";").degree(0, 0), want);
    }

    private static void sumsAreKept() {
        degreeOf("2+3*4", 14);
        degreeOf("(2+3)*4", 20);
        degreeOf("50-20-10", 20);
        degreeOf("50-(20-10)", 40);
        degreeOf("2*3*4-1", 23);
        degreeOf("999*999*999-999*999-999-990", 10);
        degreeOf("999*999+999*999-999*999-999-990", 10);
        degreeOf("(0-999)*999*999+999*999+999+999+8", 7);
        degreeOf("0-999*999-999*999+999*999+999+999+8", 7);
        degreeOf("(0-999)*999*(0-999)-999*999-999-990", 10);
        degreeOf("999*999-998*999-998", 1);
        degreeOf("base*base*base", 27);
        degreeOf("000+09", 9);
    }

    private static void inForce(String truth, int code) {
        DegreeLaws x = Check.landOf("ward 5;ward 5;act 2 from 0 to 50 fine 11;act 2 from 5 to 9 fine 12;"
            + "act 2 from 6 to 9 fine 13;act 3 from 5 to 5 fine 14;prevails:" + truth + ";hour 30;");
        Check.due("prevails:" + truth, x.code(1, 0), code);
    }

    private static void truths() {
        inForce("1=1", 11);
        inForce("1<1", 0);
        inForce("act=0 or act=3", 9);
        inForce("act<3 and act>0", 2);
        inForce("not act=0", 10);
        inForce("not act=0 and act=3", 8);
        inForce("not[act=0 and act=3]", 11);
        inForce("act=0 or act=1 and act=3", 1);
        inForce("[act=0 or act=1]and act=3", 0);
        inForce("kind=2", 3);
        inForce("fine>11", 10);
        inForce("span=50", 1);
        inForce("span=4", 2);
        inForce("span=0", 8);
        inForce("many=2", 3);
        inForce("many=1", 8);
        inForce("hour=6", 11);
        inForce("hour=30", 0);
        inForce("ward=1", 11);
        inForce("act*2+1=3", 2);
        inForce("act*999*999*999=999*999*3", 10);
        inForce("not not not act=1", 9);
        DegreeLaws x = Check.landOf("ward 0;act 1 from 0 to 9 fine 1;act 1 from 5 to 9 fine 1;prevails:not fine>0;");
        Check.due("one speaks", x.code(0, 0), 0);
        x.fire(0, 5, 1);
        Check.due("two speak", x.code(0, 0), 0);
    }

    private static void codes() {
        DegreeLaws x = Check.landOf(PLAIN);
        int[] want = {1, 1, 1, 1, 1, 3, 3, 3, 3, 3, 6, 6, 6, 6, 6, 6, 6, 6, 6, 6, 6, 4, 4, 4, 1};
        for (int n = 0; n < want.length; n++) {
            Check.due("code(0, " + n + ")", x.code(0, n), want[n]);
        }
        x.repeal(1);
        Check.due("without the repealed one", x.code(0, 9), 1);
        Check.refused("code(3, 0)", x, Check.NSE, () -> x.code(3, 0));
        Check.refused("code(-1, 1000)", x, Check.NSE, () -> x.code(-1, 1000));
        Check.refused("code(0, 1000)", x, Check.IAE, () -> x.code(0, 1000));
        Check.refused("code(0, -1)", x, Check.IAE, () -> x.code(0, -1));
        Check.due("code(0, 999)", x.code(0, 999), 4);
    }

    private static void finesAndLawful() {
        DegreeLaws x = Check.landOf(PLAIN);
        Check.due("begun: the first hour alone", x.fine(1, 0, 0, 24), 5);
        Check.due("both acts", x.fine(1, 0, 5, 24), 12);
        Check.due("another kind", x.fine(3, 0, 5, 24), 0);
        Check.due("n 999", x.fine(1, 0, 999, 1), 7);
        Check.due("begun: lawful by the first hour", x.lawful(2, 0, 9, 24) ? 1 : 0, 1);
        Check.due("begun: not lawful", x.lawful(2, 0, 10, 1) ? 1 : 0, 0);
        DegreeLaws y = Check.landOf(PLAIN + "whole;");
        Check.due("whole: all hours", y.fine(1, 0, 0, 6), 5 * 5 + 12);
        Check.due("whole: a day", y.fine(1, 0, 0, 24), 10 * 5 + 16 * 7);
        Check.due("whole: lawful", y.lawful(2, 0, 5, 5) ? 1 : 0, 1);
        Check.due("whole: not lawful", y.lawful(2, 0, 5, 6) ? 1 : 0, 0);
        DegreeLaws z = Check.landOf("ward 5;act 4 from 0 to 9 fine 0;");
        Check.due("barred at no fine", z.fine(4, 0, 0, 1), 0);
        Check.due("barred at no fine isn't lawful", z.lawful(4, 0, 0, 1) ? 1 : 0, 0);
        Check.refused("fine(10, 3, 0, 1)", x, Check.NSE, () -> x.fine(10, 3, 0, 1));
        Check.refused("fine(10, 0, 0, 1)", x, Check.IAE, () -> x.fine(10, 0, 0, 1));
        Check.refused("fine(-1, 0, 0, 1)", x, Check.IAE, () -> x.fine(-1, 0, 0, 1));
        Check.refused("fine(1, 0, -1, 1)", x, Check.IAE, () -> x.fine(1, 0, -1, 1));
        Check.refused("fine(1, 0, 1000, 1)", x, Check.IAE, () -> x.fine(1, 0, 1000, 1));
        Check.refused("fine(1, 0, 0, 0)", x, Check.IAE, () -> x.fine(1, 0, 0, 0));
        Check.refused("fine(1, 0, 0, 25)", x, Check.IAE, () -> x.fine(1, 0, 0, 25));
        Check.refused("lawful(1, 3, 1000, 1)", x, Check.NSE, () -> x.lawful(1, 3, 1000, 1) ? 1 : 0);
        Check.refused("lawful(10, 0, 0, 1)", x, Check.IAE, () -> x.lawful(10, 0, 0, 1) ? 1 : 0);
        Check.refused("lawful(1, 0, 1000, 1)", x, Check.IAE, () -> x.lawful(1, 0, 1000, 1) ? 1 : 0);
        Check.refused("lawful(1, 0, 0, 25)", x, Check.IAE, () -> x.lawful(1, 0, 0, 25) ? 1 : 0);
    }
}
