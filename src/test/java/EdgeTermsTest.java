/** Edges of the Terms, parts 2 and 3: degrees, fire and ice, acts, deeds of state, told ones, and what is asked of hours to come. */
public final class EdgeTermsTest {
    private static final String FIVE = "ward 50;ward 50;ward 50;ward 50;ward 50;";
    private static final String MILLION = "(500*2)*(500*2)";

    public static void main(String[] args) {
        degreesAreKept();
        hoursAndDaysGoRound();
        wordsOfDegree();
        sumsAreKept();
        firesAndIces();
        laterFiresStrike();
        speaking();
        inForce();
        wordsOfPrevails();
        barred();
        measured();
        hoursAndDeeds();
        deedsOfState();
        tenCanBeUndone();
        toldDeeds();
        toldFires();
        toldFiresOfNone();
        toldRepeals();
        toldHours();
        nothingElseBeingDone();
        breathedOn();
        seasons();
        seasonsWithoutWards();
        trays();
        images();
        fiveHundredAndTwelveCalls();
        Check.end();
    }

    private static void degreesAreKept() {
        Check.edge(0, "by the law degree, 0 at least, 99 at most");
        int[][] sums = {{-1000, 0}, {-1, 0}, {0, 0}, {1, 1}, {98, 98}, {99, 99}, {100, 99}, {999, 99}};
        for (int[] sum : sums) {
            String law = sum[0] < 0 ? "0-" + (-sum[0] - 1) + "-1" : "" + sum[0];
            Check.due("DEGREE by " + law, Check.landOf("ward 3;degree:" + law + ";").degree(0, 0), sum[1]);
        }
        Check.edge(0, "(without one: BASE and fire less ice)");
        DegreeLaws x = Check.landOf("ward 40;ward 39;ward 60;ward 59;ward 99;");
        Check.due("40 and 59", x.fire(0, 59, 1), 99);
        Check.due("40 and 60", x.fire(0, 60, 1), 99);
        Check.due("39 and 60", x.fire(1, 60, 1), 99);
        Check.due("60 less 60", x.ice(2, 60, 1), 0);
        Check.due("59 less 60", x.ice(3, 60, 1), 0);
        Check.due("59 less 58", x.ice(3, 58, 1), 1);
        Check.due("99 and 60", x.fire(4, 60, 1), 99);
        Check.due("99 and 60 less 60", x.ice(4, 60, 1), 99);
        Check.due("BASE alone", x.degree(0, 1), 40);
    }

    private static void hoursAndDaysGoRound() {
        Check.edge(0, "hour: HOUR modulo 24");
        DegreeLaws x = Check.landOf("ward 1;degree:hour;hour 22;");
        int[] hours = {22, 23, 0, 1};
        for (int n = 0; n < 4; n++) {
            Check.due("hour in " + n, x.degree(0, n), hours[n]);
        }
        x.hours(1);
        Check.due("hour 23", x.degree(0, 0), 23);
        x.hours(1);
        Check.due("hour 24 is hour 0", x.degree(0, 0), 0);
        Check.edge(0, "day: HOUR / 24 modulo 1,000");
        DegreeLaws y = Check.landOf("ward 1;ward 1;degree:day*(1-ward)+ward*(day-989);hour 23;");
        Check.due("day 0", y.degree(0, 0), 0);
        Check.due("day 1", y.degree(0, 1), 1);
        for (int i = 0; i < 242; i++) {
            y.hours(99);
        }
        // 23 + 242 * 99 = 23,981
        Check.due("HOUR", y.hours(18), 23999);
        Check.due("day 999", y.degree(1, 0), 10);
        Check.due("day 999", y.degree(0, 0), 99);
        Check.due("HOUR 24,000 is day 0", y.degree(0, 1), 0);
        Check.due("HOUR 24,024 is day 1", y.degree(0, 25), 1);
        y.hours(1);
        Check.due("day 0 again", y.degree(0, 0), 0);
        Check.due("day 41 again", y.degree(0, 999), 41);
    }

    private static void wordsOfDegree() {
        Check.edge(0, "base: BASE, fire, ice: by how much there is laid on then");
        DegreeLaws x = Check.landOf("ward 7;ward 8;degree:base+fire*2-ice*3+ward*50;");
        Check.due("BASE 7", x.degree(0, 0), 7);
        Check.due("BASE 8 in WARD 1", x.degree(1, 0), 58);
        Check.due("fire", x.fire(0, 10, 2), 27);
        Check.due("ice", x.ice(0, 5, 1), 12);
        Check.due("then", x.degree(0, 1), 27);
        Check.due("no more then", x.degree(0, 2), 7);
        Check.due("not in WARD 1", x.degree(1, 0), 58);
        Check.edge(0, "ward: its number");
        DegreeLaws y = Check.landOf(FIVE + "degree:ward;");
        for (int w = 0; w < 5; w++) {
            Check.due("WARD " + w, y.degree(w, 0), w);
        }
    }

    private static void kept(String sum, int want) {
        Check.due("DEGREE by " + sum, Check.landOf("ward 3;degree:" + sum + ";").degree(0, 0), want);
    }

    private static void sumsAreKept() {
        Check.edge(0, "each + - * kept from -1,000,000 to 1,000,000");
        kept(MILLION + "-999*999-999-999", 1);
        kept(MILLION + "+0-" + MILLION + "+7", 7);
        kept(MILLION + "-1-" + MILLION + "+7", 6);
        kept(MILLION + "+1-" + MILLION + "+7", 7);
        kept(MILLION + "+" + MILLION + "-" + MILLION + "+7", 7);
        kept("0-" + MILLION + "-0+" + MILLION + "+7", 7);
        kept("0-" + MILLION + "+1+" + MILLION + "+7", 8);
        kept("0-" + MILLION + "-1+" + MILLION + "+7", 7);
        kept("0-" + MILLION + "-" + MILLION + "+" + MILLION + "+7", 7);
        // 1001 * 999 is 999,999, and 1001 * 1000 is beyond
        kept("(500*2+1)*999-" + MILLION + "+7", 6);
        kept("(500*2+1)*(500*2)-" + MILLION + "+7", 7);
        kept("(0-500*2-1)*(500*2)+" + MILLION + "+7", 7);
        kept("(0-500*2-1)*999+" + MILLION + "+7", 8);
        // kept at each step: a million times a million is no overflow
        kept(MILLION + "*(" + MILLION + ")-" + MILLION + "+7", 7);
        kept("(0-" + MILLION + ")*(" + MILLION + ")+" + MILLION + "+7", 7);
        kept("(0-" + MILLION + ")*(0-" + MILLION + ")-" + MILLION + "+7", 7);
        Check.edge(0, "likewise kept");
        String acts = "ward 5;act 1 from 0 to 9 fine 1;act 1 from 0 to 9 fine 1;prevails:";
        Check.due("a million and 1", Check.landOf(acts + MILLION + "+act=" + MILLION + ";").code(0, 0), 3);
        Check.due("a million less 1", Check.landOf(acts + MILLION + "-act=" + MILLION + ";").code(0, 0), 1);
        Check.due("below", Check.landOf(acts + "0-" + MILLION + "-act=0-" + MILLION + ";").code(0, 0), 3);
        Check.due("product", Check.landOf(acts + MILLION + "*(act+1)=" + MILLION + ";").code(0, 0), 3);
    }

    private static void firesAndIces() {
        Check.edge(0, "FIRE in a WARD: so many DEGREES (0 to 60) for so many HOURS (1 to 99) from this one on; ICE likewise");
        int[] degrees = {1, 60, 30, 60, 7};
        int[] hours = {1, 99, 2, 98, 50};
        DegreeLaws x = Check.landOf(FIVE + "degree:fire+ice;");
        for (int w = 0; w < 5; w++) {
            x.hours(1);
            Check.due("FIRE", x.fire(w, degrees[w], hours[w]), degrees[w]);
        }
        DegreeLaws y = Check.landOf(FIVE + "degree:fire+ice;");
        for (int w = 0; w < 5; w++) {
            y.hours(1);
            Check.due("ICE", y.ice(w, degrees[w], hours[w]), degrees[w]);
        }
        for (int w = 0; w < 5; w++) {
            // laid on in HOUR w + 1, and it is HOUR 5 now
            int left = Math.max(0, hours[w] - (4 - w));
            for (DegreeLaws z : new DegreeLaws[] {x, y}) {
                Check.due("HOURS left in " + w, z.ward(w, z == x ? 4 : 5), left);
                Check.due("none of the other in " + w, z.ward(w, z == x ? 5 : 4), 0);
                Check.due("DEGREES now in " + w, z.ward(w, z == x ? 2 : 3), left > 0 ? degrees[w] : 0);
                if (left > 0) {
                    Check.due("its last HOUR in " + w, z.degree(w, left - 1), degrees[w]);
                }
                Check.due("none behind it in " + w, z.degree(w, left), 0);
            }
        }
        Check.due("fire(0, 61, 1)", Check.thrownBy(() -> x.fire(0, 61, 1)), Check.IAE);
        Check.due("fire(0, -1, 1)", Check.thrownBy(() -> x.fire(0, -1, 1)), Check.IAE);
        Check.due("fire(0, 1, 100)", Check.thrownBy(() -> x.fire(0, 1, 100)), Check.IAE);
        Check.due("fire(0, 1, 0)", Check.thrownBy(() -> x.fire(0, 1, 0)), Check.IAE);
    }

    private static void laterFiresStrike() {
        Check.edge(0, "a later one of a WARD strikes (0: none is left)");
        DegreeLaws x = Check.landOf(FIVE);
        // fire and ice in all wards at once, each for itself
        for (int w = 0; w < 5; w++) {
            x.fire(w, 10 + w, 20 + w);
            x.hours(1);
            x.ice(w, 20 + w, 40 - w);
        }
        for (int w = 0; w < 5; w++) {
            Check.due("FIRE of " + w, x.ward(w, 2), 10 + w);
            Check.due("ICE of " + w, x.ward(w, 3), 20 + w);
            Check.due("HOURS of FIRE of " + w, x.ward(w, 4), 20 + w - (5 - w));
            Check.due("HOURS of ICE of " + w, x.ward(w, 5), 40 - w - (4 - w));
        }
        x.fire(2, 5, 3);
        Check.due("a weaker, shorter one strikes", x.ward(2, 2), 5);
        Check.due("its HOURS alone", x.ward(2, 4), 3);
        Check.due("ICE stays", x.ward(2, 3), 22);
        Check.due("behind it none is left of the former", x.degree(2, 3), 28);
        Check.due("other WARDS stay", x.ward(3, 2), 13);
        x.fire(1, 0, 99);
        Check.due("none is left", x.ward(1, 2), 0);
        Check.due("no HOURS are left", x.ward(1, 4), 0);
        Check.due("ICE stays", x.ward(1, 5), 36);
        x.ice(1, 0, 1);
        Check.due("none is left", x.ward(1, 3), 0);
        Check.due("no HOURS are left", x.ward(1, 5), 0);
        Check.due("BASE again", x.degree(1, 0), 50);
    }

    private static void speaking() {
        Check.edge(0, "An ACT that isn't repealed SPEAKS in a WARD in an HOUR, if DEGREE is from its first to its second one.");
        String act = "act 1 from 20 to 30 fine 4;";
        int[][] degrees = {{19, 0}, {20, 1}, {30, 1}, {31, 0}};
        for (int[] one : degrees) {
            Check.due("at " + one[0], Check.landOf("ward " + one[0] + ";" + act).code(0, 0), one[1]);
        }
        Check.due("one degree alone", Check.landOf("ward 0;act 1 from 0 to 0 fine 1;").code(0, 0), 1);
        Check.due("one degree alone", Check.landOf("ward 1;act 1 from 0 to 0 fine 1;").code(0, 0), 0);
        Check.due("99", Check.landOf("ward 99;act 1 from 99 to 99 fine 1;").code(0, 0), 1);
        DegreeLaws x = Check.landOf("ward 25;" + act);
        x.repeal(0);
        Check.due("repealed", x.code(0, 0), 0);
    }

    private static void inForce() {
        Check.edge(0, "Of ACTS of one KIND that SPEAK each is IN FORCE there for which the law prevails holds (without one: each)");
        String acts = "ward 5;act 1 from 0 to 9 fine 1;act 1 from 5 to 5 fine 1;act 2 from 5 to 9 fine 1;act 1 from 6 to 9 fine 1;";
        Check.due("without one", Check.landOf(acts).code(0, 0), 7);
        Check.due("for each", Check.landOf(acts + "prevails:0=0;").code(0, 0), 7);
        Check.due("for none", Check.landOf(acts + "prevails:0=1;").code(0, 0), 0);
        Check.due("for one that doesn't speak", Check.landOf(acts + "prevails:act=3;").code(0, 0), 0);
        Check.due("for some", Check.landOf(acts + "prevails:act>0;").code(0, 0), 6);
        // for as many as speak now, by what was found for fewer of them before
        DegreeLaws x = Check.landOf("ward 0;act 1 from 0 to 0 fine 1;act 1 from 0 to 9 fine 1;prevails:not many<9;");
        x.fire(0, 5, 1);
        Check.due("for one that speaks", x.code(0, 0), 0);
        x.fire(0, 0, 1);
        Check.due("for two that speak", x.code(0, 0), 0);
        DegreeLaws y = Check.landOf("ward 0;act 1 from 0 to 0 fine 1;act 1 from 0 to 9 fine 1;prevails:many=1;");
        Check.due("for two that speak", y.code(0, 0), 0);
        y.fire(0, 5, 1);
        Check.due("for one that speaks", y.code(0, 0), 2);
        y.fire(0, 0, 1);
        Check.due("for two that speak again", y.code(0, 0), 0);
    }

    private static void wordsOfPrevails() {
        Check.edge(0, "act: its number, kind, fine: its FINE, span: second DEGREE less first");
        String acts = "ward 5;act 3 from 5 to 5 fine 0;act 9 from 0 to 99 fine 99;act 3 from 4 to 7 fine 8;hour 47;prevails:";
        Check.due("act", Check.landOf(acts + "act=2;").code(0, 0), 4);
        Check.due("act 0", Check.landOf(acts + "act=0;").code(0, 0), 1);
        Check.due("kind", Check.landOf(acts + "kind=3;").code(0, 0), 5);
        Check.due("fine 0", Check.landOf(acts + "fine=0;").code(0, 0), 1);
        Check.due("fine 99", Check.landOf(acts + "fine=99;").code(0, 0), 2);
        Check.due("span 0", Check.landOf(acts + "span=0;").code(0, 0), 1);
        Check.due("span 99", Check.landOf(acts + "span=99;").code(0, 0), 2);
        DegreeLaws amended = Check.landOf(acts + "span=3;");
        Check.due("span 3", amended.code(0, 0), 4);
        Check.due("amended", amended.amend(0, 3, 6), 1);
        Check.due("span of both", amended.code(0, 0), 5);
        Check.edge(0, "many: how many of this KIND SPEAK, hour, ward as above");
        Check.due("many 2", Check.landOf(acts + "many=2;").code(0, 0), 5);
        Check.due("many 1", Check.landOf(acts + "many=1;").code(0, 0), 2);
        DegreeLaws x = Check.landOf(acts + "many=1;");
        x.repeal(0);
        Check.due("repealed ones don't speak", x.code(0, 0), 6);
        x.undo(1);
        x.fire(0, 1, 1);
        Check.due("out of its degrees it doesn't speak", x.code(0, 0), 6);
        Check.due("in an hour it does", x.code(0, 1), 2);
        StringBuilder eight = new StringBuilder("ward 0;");
        for (int a = 0; a < 8; a++) {
            eight.append("act 0 from 0 to ").append(a).append(" fine 1;");
        }
        Check.due("many 8", Check.landOf(eight + "prevails:many=8;").code(0, 0), 255);
        Check.due("many 1", Check.landOf(eight + "prevails:many=1;degree:7;").code(0, 0), 128);
        Check.due("hour 23", Check.landOf(acts + "hour=23;").code(0, 0), 7);
        Check.due("hour 0 in an hour", Check.landOf(acts + "hour=0;").code(0, 1), 7);
        byHourAndWard();
    }

    /** Each hour of each ward by itself, in two orders, so that no answer stands in for another. */
    private static void byHourAndWard() {
        String text = FIVE + "act 1 from 0 to 99 fine 1;prevails:hour=ward*5+1;";
        DegreeLaws x = Check.landOf(text);
        DegreeLaws y = Check.landOf(text);
        for (int i = 0; i < 120; i++) {
            int w = i / 24;
            int n = i % 24;
            Check.due("WARD " + w + " in hour " + n, x.code(w, n), n == 5 * w + 1 ? 1 : 0);
            w = 4 - i % 5;
            n = 23 - i / 5;
            Check.due("WARD " + w + " in hour " + n, y.code(w, n), n == 5 * w + 1 ? 1 : 0);
        }
    }

    private static void barred() {
        Check.edge(0, "A KIND is BARRED in a WARD in an HOUR, if some ACT of it is IN FORCE; its FINE then: of all these together.");
        DegreeLaws x = Check.landOf("ward 5;act 1 from 0 to 9 fine 0;");
        Check.due("BARRED at FINE 0", x.lawful(1, 0, 0, 1) ? 1 : 0, 0);
        Check.due("FINE 0", x.fine(1, 0, 0, 1), 0);
        Check.due("another KIND isn't", x.lawful(2, 0, 0, 1) ? 1 : 0, 1);
        DegreeLaws all = Check.landOf("ward 5;" + "act 4 from 0 to 9 fine 99;".repeat(8));
        Check.due("eight ACTS", all.fine(4, 0, 0, 1), 792);
        all.repeal(7);
        Check.due("seven ACTS", all.fine(4, 0, 0, 1), 693);
        Check.due("those IN FORCE alone", Check.landOf("ward 5;act 1 from 0 to 9 fine 2;act 1 from 0 to 9 fine 4;"
            + "act 1 from 6 to 9 fine 8;act 2 from 0 to 9 fine 16;prevails:act>0;").fine(1, 0, 0, 1), 4);
    }

    private static void measured() {
        // kind 1 is barred in hours 5 to 7 and 12
        String text = "ward 0;act 1 from 5 to 7 fine 3;act 1 from 12 to 12 fine 10;degree:hour;";
        Check.edge(0, "measured begun: LAWFUL if it isn't BARRED in its first HOUR, FINED by that one");
        DegreeLaws x = Check.landOf(text);
        Check.due("lasts 24 from a free HOUR", x.lawful(1, 0, 4, 24) ? 1 : 0, 1);
        Check.due("FINED nothing", x.fine(1, 0, 4, 24), 0);
        Check.due("the last barred HOUR", x.lawful(1, 0, 7, 24) ? 1 : 0, 0);
        Check.due("FINED by it alone", x.fine(1, 0, 7, 24), 3);
        Check.due("the first HOUR behind", x.lawful(1, 0, 8, 24) ? 1 : 0, 1);
        Check.edge(0, "whole: if it isn't in any, FINED by all.");
        DegreeLaws y = Check.landOf(text + "whole;");
        Check.due("till the HOUR ahead", y.lawful(1, 0, 0, 5) ? 1 : 0, 1);
        Check.due("an HOUR more", y.lawful(1, 0, 0, 6) ? 1 : 0, 0);
        Check.due("FINED nothing", y.fine(1, 0, 0, 5), 0);
        Check.due("FINED by one", y.fine(1, 0, 0, 6), 3);
        Check.due("FINED by three", y.fine(1, 0, 0, 12), 9);
        Check.due("FINED by all", y.fine(1, 0, 0, 24), 19);
        Check.due("from behind on", y.lawful(1, 0, 8, 4) ? 1 : 0, 1);
        Check.due("the last HOUR counts", y.lawful(1, 0, 8, 5) ? 1 : 0, 0);
        Check.due("over midnight", y.lawful(1, 0, 13, 16) ? 1 : 0, 1);
        Check.due("over midnight, an HOUR more", y.lawful(1, 0, 13, 17) ? 1 : 0, 0);
        // barred by the law in hour 7 alone
        DegreeLaws law = Check.landOf("ward 5;act 1 from 0 to 99 fine 3;prevails:hour=7;whole;");
        int[][] deeds = {{5, 2, 0}, {5, 3, 3}, {7, 1, 3}, {7, 24, 3}, {8, 3, 0}, {8, 23, 0}, {8, 24, 3}, {17, 1, 0}, {31, 1, 3}};
        for (int[] one : deeds) {
            Check.due("FINED from " + one[0] + " on for " + one[1], law.fine(1, 0, one[0], one[1]), one[2]);
            Check.due("LAWFUL from " + one[0] + " on for " + one[1], law.lawful(1, 0, one[0], one[1]) ? 1 : 0, one[2] == 0 ? 1 : 0);
        }
        Check.edge(0, "A DEED of a KIND in a WARD lasts 1 to 24 HOURS from an HOUR on");
        Check.due("1", y.fine(1, 0, 5, 1), 3);
        Check.due("24", y.fine(1, 0, 5, 24), 19);
        Check.due("0", Check.thrownBy(() -> y.fine(1, 0, 5, 0)), Check.IAE);
        Check.due("25", Check.thrownBy(() -> y.fine(1, 0, 5, 25)), Check.IAE);
    }

    private static void hoursAndDeeds() {
        Check.edge(0, "An HOUR goes by: HOUR is 1 more. A DEED done now: HOUR goes on by as many as it lasts; PAID is more by what it "
            + "is FINED.");
        DegreeLaws x = Check.landOf("ward 5;act 1 from 0 to 9 fine 7;hour 999;whole;");
        Check.due("HOUR", x.hours(1), 1000);
        Check.due("FINED", x.done(1, 0, 24), 168);
        Check.due("HOUR", x.count(4), 1024);
        Check.due("PAID", x.count(5), 168);
        Check.due("FINED", x.done(1, 0, 1), 7);
        Check.due("PAID", x.count(5), 175);
        Check.due("LAWFUL", x.done(2, 0, 2), 0);
        Check.due("HOUR", x.count(4), 1027);
        Check.due("PAID", x.count(5), 175);
    }

    private static void one(DegreeLaws x, int which) {
        switch (which) {
            case 0: x.fire(0, 9, 9); break;
            case 1: x.ice(1, 8, 8); break;
            case 2: x.amend(0, 3, 77); break;
            case 3: x.repeal(1); break;
            case 4: x.hours(50); break;
            default: x.done(1, 0, 5);
        }
    }

    private static void deedsOfState() {
        Check.edge(0, "DEEDS OF STATE: FIRE, ICE, an ACT amended, repealed, HOURS of one call, a DEED done; each can be UNDONE, the "
            + "latest first");
        String text = "ward 5;ward 50;act 1 from 0 to 9 fine 7;act 2 from 40 to 60 fine 3;";
        for (int first = 0; first < 6; first++) {
            for (int second = 0; second < 6; second++) {
                if (first == 3 && second == 3) {
                    continue;
                }
                DegreeLaws x = Check.landOf(text);
                String none = Check.sketch(x);
                one(x, first);
                Check.due("one can be UNDONE", x.count(7), 1);
                String one = Check.sketch(x);
                Check.due("something is done by " + first, one.equals(none) ? 1 : 0, 0);
                one(x, second);
                Check.due("two can be UNDONE", x.count(7), 2);
                Check.due("the latest, " + second, x.undo(1), 1);
                Check.due(first + " stands alone", Check.sketch(x).equals(one) ? 1 : 0, 1);
                Check.due("the first, " + first, x.undo(1), 0);
                Check.due("none stands", Check.sketch(x).equals(none) ? 1 : 0, 1);
            }
        }
    }

    private static void tenCanBeUndone() {
        Check.edge(0, "10 at most (eldest are forgotten)");
        for (int many = 9; many <= 25; many++) {
            DegreeLaws x = new DegreeLaws();
            for (int i = 1; i <= many; i++) {
                x.hours(i);
            }
            int undone = Math.min(10, many);
            Check.due("of " + many + " can be UNDONE", x.count(7), undone);
            Check.due("all of them", x.undo(undone), 0);
            int left = many - undone;
            Check.due("the eldest stand", x.count(4), left * (left + 1) / 2);
            Check.due("and can't be UNDONE", Check.thrownBy(() -> x.undo(1)), Check.IAE);
        }
    }

    private static final String TOLD = "ward 10;ward 20;ward 30;ward 40;ward 50;act 0 from 0 to 19 fine 1;act 1 from 0 to 25 fine 2;"
        + "act 2 from 15 to 99 fine 3;act 3 from 30 to 39 fine 4;act 9 from 0 to 20 fine 5;act 9 from 50 to 60 fine 6;"
        + "act 8 from 40 to 50 fine 7;act 5 from 10 to 10 fine 8;whole;";

    private static void toldDeeds() {
        Check.edge(0, "0 to 9999: a DEED of KIND v by 1000, in WARD v by 100 modulo 10, for v modulo 100 HOURS");
        DegreeLaws x = Check.landOf(TOLD);
        DegreeLaws y = Check.landOf(TOLD);
        for (int v = 0; v <= 9999; v++) {
            if (v % 100 == 0) {
                // an object is used for 512 calls alone
                x = Check.landOf(TOLD);
                y = Check.landOf(TOLD);
                x.tray(0, 1, 1);
            }
            int w = v / 100 % 10;
            int lasts = v % 100;
            boolean can = w <= 4 && lasts >= 1 && lasts <= 24;
            x.write(0, 0, v);
            Check.due("why not " + v, x.judge(0, 1), can ? 0 : 1);
            Check.due("HOUR by " + v, x.judge(0, 2), can ? lasts : 0);
            Check.due("PAID by " + v, x.judge(0, 3), can ? y.fine(v / 1000, w, 0, lasts) : 0);
        }
        x.tray(0, 1, 1);
        x.write(0, 0, 10001);
        Check.due("10001", x.judge(0, 1), 1);
        x.write(0, 0, 9401);
        Check.due("9401", x.perform(0), 1);
        Check.due("PAID", x.count(5), 6);
        x.write(0, 0, 9001);
        Check.due("9001", x.perform(0), 1);
        Check.due("PAID", x.count(5), 11);
    }

    private static void toldFires() {
        Check.edge(0, "20000 and 100 times a WARD: FIRE of v modulo 100 there for 6 HOURS; 30000 likewise ICE");
        DegreeLaws x = Check.landOf(TOLD);
        for (int v = 19900; v <= 40000; v++) {
            // far ahead no WARD can be meant: each 97th number is enough there
            if (v % 10000 > 700 && v % 10000 < 9900 && v % 97 != 0 || v == 40000) {
                continue;
            }
            x = Check.landOf(TOLD);
            x.tray(0, 2, 1);
            x.write(0, 0, v);
            int w = v % 10000 / 100;
            boolean can = v >= 20000 && w <= 4 && v % 100 <= 60;
            Check.due("why not " + v, x.judge(0, 1), can ? 0 : 1);
            Check.due("perform " + v, x.perform(0), can ? 1 : 0);
            for (int u = 0; u < 5; u++) {
                boolean there = can && u == w && v % 100 > 0;
                boolean fire = v < 30000;
                Check.due("FIRE in " + u + " by " + v, x.ward(u, 2), there && fire ? v % 100 : 0);
                Check.due("ICE in " + u + " by " + v, x.ward(u, 3), there && !fire ? v % 100 : 0);
                Check.due("FIRE's HOURS in " + u + " by " + v, x.ward(u, 4), there && fire ? 6 : 0);
                Check.due("ICE's HOURS in " + u + " by " + v, x.ward(u, 5), there && !fire ? 6 : 0);
            }
        }
    }

    private static void toldFiresOfNone() {
        Check.edge(0, "FIRE of v modulo 100 there for 6 HOURS; 30000 likewise ICE");
        for (int w = 0; w < 5; w++) {
            DegreeLaws x = Check.landOf(TOLD);
            x.fire(w, 9, 9);
            x.ice(w, 8, 8);
            Check.trayOf(x, 0, 30000 + 100 * w);
            Check.due("ICE of 0", x.perform(0), 1);
            Check.due("FIRE stays", x.ward(w, 2), 9);
            Check.due("no ICE is left", x.ward(w, 5), 0);
            x.undo(1);
            Check.trayOf(x, 0, 20000 + 100 * w);
            Check.due("FIRE of 0", x.perform(0), 1);
            Check.due("no FIRE is left", x.ward(w, 4), 0);
            Check.due("ICE stays", x.ward(w, 3), 8);
        }
    }

    private static int why(String text, long v) {
        DegreeLaws x = Check.landOf(text);
        Check.trayOf(x, 0, v);
        return x.judge(0, 1);
    }

    private static void toldRepeals() {
        Check.edge(0, "40000 and an ACT: repealed");
        for (int a = 0; a < 8; a++) {
            DegreeLaws x = Check.landOf(TOLD);
            Check.trayOf(x, 0, 40000 + a, 40000 + a);
            Check.due("perform", x.perform(0), 1);
            for (int b = 0; b < 8; b++) {
                Check.due("ACT " + b, x.act(b, 4), a == b ? 1 : 0);
            }
        }
        Check.edge(0, "They can't be: 1 no such WARD, ACT, number");
        Check.due("40008", why(TOLD, 40008), 1);
        Check.due("no ACTS", why("ward 5;", 40000), 1);
        Check.due("one ACT", why("act 1 from 0 to 9 fine 1;", 40001), 1);
        Check.due("one ACT", why("act 1 from 0 to 9 fine 1;", 40000), 0);
        Check.due("no WARDS", why("act 1 from 0 to 9 fine 1;", 1), 1);
        Check.due("no WARDS", why("act 1 from 0 to 9 fine 1;", 20000), 1);
        Check.due("one WARD", why("ward 5;", 101), 1);
        Check.due("one WARD", why("ward 5;", 20100), 1);
        long[] none = {0, 25, 99, 500, 9900, 10000, 19999, 20061, 39999, 40100, 49999, 50000, 60000, -2, -100, -10000,
            Long.MIN_VALUE, Long.MAX_VALUE, (1L << 32) + 1, (1L << 32) - 1, (1L << 32) + 20000, (1L << 32) + 40000,
            -(1L << 32) - 1, -(1L << 32) + 1};
        for (long v : none) {
            Check.due("why not " + v, why(TOLD, v), 1);
        }
        Check.edge(0, "2 it is repealed already");
        DegreeLaws x = Check.landOf(TOLD);
        x.repeal(3);
        Check.trayOf(x, 0, 40002, 40003, 40004);
        Check.due("place", x.judge(0, 0), 1);
        Check.due("why", x.judge(0, 1), 2);
        x.undo(1);
        Check.due("no more", x.judge(0, 0), -1);
        Check.trayOf(x, 0, 40007, -1, 40007);
        Check.due("by the same tray", x.judge(0, 0), 2);
        Check.due("why", x.judge(0, 1), 2);
    }

    private static void toldHours() {
        Check.edge(0, "NONE: an HOUR");
        for (int sort = 0; sort < 4; sort++) {
            DegreeLaws x = Check.landOf("hour 23;");
            x.tray(0, sort, 2);
            x.write(0, 0, -1);
            x.write(0, 1, DegreeLaws.NONE);
            Check.due("why not", x.judge(0, 1), 0);
            Check.due("HOUR", x.judge(0, 2), 25);
            Check.due("perform", x.perform(0), 2);
            Check.due("HOUR", x.count(4), 25);
            Check.due("each by itself", x.count(7), 2);
        }
    }

    private static void nothingElseBeingDone() {
        Check.edge(0, "All that is asked of HOURS to come: nothing else being done.");
        DegreeLaws x = Check.landOf(TOLD);
        x.fire(0, 30, 5);
        x.ice(4, 40, 3);
        Check.trayOf(x, 0, 1001, 9424, 8305);
        Check.trayOf(x, 1, -1, -1);
        String ahead = Check.portrait(x);
        x.soonest(1, 0, 24);
        x.where(1, 24);
        x.cheapest(1, 0, 24);
        x.freeHours(1, 0, 200);
        x.spell(1, 0, 200, 0);
        x.lawless(0);
        x.alwaysBarred();
        x.strictest();
        x.heat(1, 0, 999, 24);
        x.leastHeat(1, 0, 24);
        x.cover(1, 0, 0);
        x.widen(0, 0);
        x.heaviest(0);
        x.freeWay(1, 0, 4);
        x.freeAt(1, 0, 0, 0);
        x.wayFine(1, 0, 0, 60);
        x.freeWays(1, 0, 0, 20);
        x.guard(1, 0, 4);
        x.errands(0);
        x.bestOrder(0, 0);
        x.seen(1, 1, 0);
        x.breath(1, 1, 0, 0);
        x.look(1, 1, 0);
        x.judge(0, 3);
        Check.due("all is as it was", Check.portrait(x).equals(ahead) ? 1 : 0, 1);
    }

    private static void breathedOn() {
        Check.edge(0, "BREATHED ON by d (-20 to 20): DEGREE of a WARD was d more (kept from 0 to 99)");
        DegreeLaws x = Check.landOf("ward 50;act 1 from 30 to 30 fine 1;act 1 from 70 to 70 fine 2;act 1 from 29 to 29 fine 4;"
            + "act 1 from 71 to 71 fine 8;hour 1;");
        int[][] fines = {{1, 1, -20}, {2, 1, 20}, {4, 0, 99}, {8, 0, 99}};
        for (int[] one : fines) {
            Check.trayOf(x, 0, one[0]);
            Check.due("seen " + one[0], x.seen(0, 1, 0), one[1]);
            Check.due("breath by " + one[0], x.breath(0, 1, 0, 0), one[2]);
        }
        DegreeLaws y = Check.landOf("ward 3;ward 97;act 1 from 0 to 0 fine 1;act 1 from 99 to 99 fine 2;hour 1;");
        Check.trayOf(y, 0, 1);
        Check.due("kept at 0", y.seen(0, 1, 0), 18);
        Check.due("the last", y.breath(0, 1, 0, 17), -3);
        Check.trayOf(y, 0, 2);
        Check.due("kept at 99", y.seen(0, 1, 1), 19);
        Check.due("the first", y.breath(0, 1, 1, 0), 2);
    }

    /** The same season by single calls; the draws are worked out in 64 bits. */
    private static int byHand(DegreeLaws x, int seed, int times) {
        long[] s = {seed & 0xffffffffL};
        for (int i = 0; i < times; i++) {
            int what = draw(s) % 5;
            if (what < 2) {
                x.hours(1);
            } else if (what < 4) {
                int w = draw(s) % x.count(1);
                int degrees = draw(s) % 61;
                if (what == 2) {
                    x.fire(w, degrees, 6);
                } else {
                    x.ice(w, degrees, 6);
                }
            } else {
                int kind = draw(s) % 10;
                int w = draw(s) % x.count(1);
                x.done(kind, w, 1 + draw(s) % 24);
            }
        }
        return times;
    }

    private static int draw(long[] s) {
        // 32 bits of a product of 63: the int that Java's wrap-around leaves
        s[0] = s[0] * 1103515245L + 12345L & 0xffffffffL;
        return (int) (s[0] >> 16);
    }

    private static void seasons() {
        Check.edge(0, "A SEASON by a SEED (x, an int; a DRAW: x becomes 1103515245 x + 12345, it is x >>> 16)");
        int[] seeds = {0, 1, -1, 2, 65535, 65536, -65536, Integer.MAX_VALUE, Integer.MIN_VALUE, 1 << 30, 123456789};
        for (int seed : seeds) {
            same(TOLD, seed, 30);
            same("ward 50;act 4 from 20 to 70 fine 9;", seed, 30);
        }
        Check.edge(0, "so many times (1 to 30): DRAW modulo 5: 0 and 1 an HOUR; 2 FIRE, 3 ICE in WARD DRAW modulo WARDS of DRAW modulo "
            + "61, for 6 HOURS; 4 a DEED of KIND DRAW modulo 10 in WARD DRAW modulo WARDS for 1 and DRAW modulo 24 HOURS");
        boolean[] what = new boolean[5];
        for (int seed = 0; seed < 200; seed++) {
            what[draw(new long[] {seed}) % 5] = true;
            same(TOLD, seed, 1);
            same("ward 1;ward 20;ward 99;act 3 from 20 to 70 fine 9;act 0 from 0 to 99 fine 1;whole;", seed, 1 + seed % 30);
        }
        for (boolean one : what) {
            Check.due("each was drawn", one ? 1 : 0, 1);
        }
    }

    private static void same(String text, int seed, int times) {
        DegreeLaws x = Check.landOf(text);
        DegreeLaws y = Check.landOf(text);
        Check.due("season(" + seed + ", " + times + ")", x.season(seed, times), byHand(y, seed, times));
        Check.due("season(" + seed + ", " + times + ") as by hand", Check.spend(x).equals(Check.spend(y)) ? 1 : 0, 1);
    }

    private static void seasonsWithoutWards() {
        Check.edge(0, "(without WARDS: HOURS alone, no more DRAWS)");
        for (int seed = -50; seed < 50; seed++) {
            DegreeLaws x = Check.landOf("hour 5;act 1 from 0 to 9 fine 1;");
            long[] s = {seed & 0xffffffffL};
            int hours = 0;
            for (int i = 0; i < 30; i++) {
                hours += draw(s) % 5 < 2 ? 1 : 0;
            }
            Check.due("season(" + seed + ", 30)", x.season(seed, 30), hours);
            Check.due("HOUR", x.count(4), 5 + hours);
            Check.due("can be UNDONE", x.count(7), Math.min(10, hours));
        }
    }

    private static void trays() {
        Check.edge(0, "TRAYS 0 to 3 are MISSING at first, or rows of 0 to 30 numbers of 8 bits (sort 0), 16 (1), 32 (2), 64 (3).");
        DegreeLaws x = new DegreeLaws();
        for (int t = 0; t < 4; t++) {
            int tray = t;
            Check.due("MISSING", Check.thrownBy(() -> x.perform(tray)), Check.ISE);
            x.tray(t, t, t == 0 ? 0 : 30);
            Check.due("none is MISSING by another one", Check.thrownBy(() -> x.perform(tray)), 0);
            if (t < 3) {
                Check.due("the next one is", Check.thrownBy(() -> x.perform(tray + 1)), Check.ISE);
            }
        }
        Check.due("no TRAY 4", Check.thrownBy(() -> x.perform(4)), Check.NSE);
        Check.due("no TRAY -1", Check.thrownBy(() -> x.perform(-1)), Check.NSE);
        Check.due("no place of none", Check.thrownBy(() -> x.write(0, 0, 1)), Check.IOOBE);
        Check.due("16 bits", x.write(1, 29, 32768), -32768);
        Check.due("32 bits", x.write(2, 29, 1L << 31), -(1L << 31));
        Check.due("64 bits", x.write(3, 29, Long.MIN_VALUE), Long.MIN_VALUE);
        Check.due("place 30", Check.thrownBy(() -> x.write(3, 30, 1)), Check.IOOBE);
    }

    private static void images() {
        Check.edge(0, "IMAGES 0 to 2: all but the tape, the FAULT and TRAYS, as it was (none at first).");
        DegreeLaws x = Check.landOf(TOLD);
        for (int i = 0; i < 3; i++) {
            int image = i;
            Check.due("none at first", Check.thrownBy(() -> {
                x.restore(image);
                return 0;
            }), Check.ISE);
        }
        x.fire(1, 5, 50);
        x.image(0);
        String first = Check.sketch(x);
        x.tray(0, 3, 1);
        x.feed(0x3f3f3f3f, 0, 0, 0, 0);
        Check.due("a FAULT", x.land(1), -11);
        x.feed(0x686f7572, 0x20373b20, 0, 0, 0);
        x.repeal(0);
        x.hours(9);
        x.restore(0);
        Check.due("the tape stays", x.count(8), 20);
        Check.due("the FAULT stays", x.fault(0), 1);
        Check.due("its place stays", x.fault(1), 0);
        Check.due("TRAYS stay", x.judge(0, 1), 1);
        // all but the first row, where the tape and the FAULT stand
        Check.due("all else is as it was", Check.sketch(x).replaceFirst(".*\n", "").equals(first.replaceFirst(".*\n", "")) ? 1 : 0, 1);
        Check.due("HOUR", x.count(4), 0);
        Check.due("what can be UNDONE", x.count(7), 1);
        Check.due("land(8)", x.land(8), 1);
        Check.due("what was on the tape", x.count(4), 7);
        x.restore(0);
        Check.due("the LAND too", x.count(1), 5);
        Check.due("its LINES", x.count(0), 14);
        Check.due("how deeds are measured", x.count(6), 1);
    }

    private static void fiveHundredAndTwelveCalls() {
        Check.edge(0, "An object is used for at most 512 calls after it has been made");
        DegreeLaws x = new DegreeLaws();
        for (int i = 1; i <= 510; i++) {
            x.hours(99);
        }
        Check.due("the 511th call", x.hours(99), 511 * 99);
        Check.due("the 512th call", x.undo(10), 0);
    }
}
