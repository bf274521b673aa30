/** Edges of the Terms, part 1: the text of a land, what bounds it and which fault is told where. */
public final class EdgeTextTest {
    private static final String[] OF_DEGREE = {"base", "fire", "ice", "hour", "day", "ward"};
    private static final String[] OF_PREVAILS = {"act", "kind", "fine", "span", "many", "hour", "ward"};
    private static final String[] OTHER_WORDS = {"degree", "prevails", "whole", "begun", "beside", "from", "to", "or", "and",
        "a", "z", "wards", "war", "hours", "basefire"};
    private static final String ACT = "act 1 from 1 to 2 fine 1;";

    public static void main(String[] args) {
        nineHundredBytes();
        withoutOne();
        linesAndSemicolons();
        formsOfLines();
        ofTruths();
        ofUnits();
        ofSums();
        ofAtoms();
        sixWithinOneAnother();
        wards();
        acts();
        hours();
        measures();
        laterOnesStrike();
        blanks();
        tokens();
        firstAlongTheText();
        faultOne();
        faultTwo();
        faultThree();
        faultFour();
        Check.end();
    }

    private static void fault(String text, int kind, int place) {
        DegreeLaws x = new DegreeLaws();
        Check.due("land of '" + text + "'", Check.landText(x, text), -10 - kind);
        Check.due("fault(0) of '" + text + "'", x.fault(0), kind);
        Check.due("fault(1) of '" + text + "'", x.fault(1), place);
        Check.due("LINES by '" + text + "'", x.count(0), 0);
    }

    private static DegreeLaws stands(String text, int lines) {
        DegreeLaws x = new DegreeLaws();
        Check.due("land of '" + text + "'", Check.landText(x, text), lines);
        Check.due("fault(0) of '" + text + "'", x.fault(0), 0);
        Check.due("fault(1) of '" + text + "'", x.fault(1), -1);
        Check.due("LINES by '" + text + "'", x.count(0), lines);
        return x;
    }

    private static void degreeOf(String sum, int want) {
        Check.due("DEGREE by " + sum, stands("ward 3;degree:" + sum + ";", 2).degree(0, 0), want);
    }

    /** Of three acts that speak: which are in force by a law. */
    private static void codeOf(String truth, int want) {
        DegreeLaws x = stands("ward 3;act 0 from 0 to 9 fine 1;act 0 from 0 to 9 fine 1;act 0 from 3 to 3 fine 1;prevails:"
            + truth + ";", 5);
        Check.due("ACTS IN FORCE by " + truth, x.code(0, 0), want);
    }

    private static String filled(String ahead, String again, String behind) {
        StringBuilder b = new StringBuilder(ahead);
        for (int left = 900 - ahead.length() - behind.length(); left >= again.length(); left -= again.length()) {
            b.append(again);
        }
        // blanks ahead, so that the last byte of the text counts
        return " ".repeat(900 - b.length() - behind.length()) + b + behind;
    }

    private static void nineHundredBytes() {
        Check.edge(0, "THE LAND is a TEXT of at most 900 bytes");
        Check.due("HOUR", stands(filled("", " ", "hour 5;"), 1).count(4), 5);
        fault(filled("", " ", "hour 5"), 2, 900);
        fault(filled("", " ", "hour 5;?"), 1, 899);
        fault(filled("", " ", "hour 5;a"), 2, 899);
        Check.due("measured whole", stands(filled("", "begun;", "whole;"), 150).count(6), 1);
        Check.due("a sum", stands(filled("ward 0;degree:1", "+0", "+9;"), 2).degree(0, 0), 10);
        Check.due("a product", stands(filled("ward 0;degree:7", "*1", "*2;"), 2).degree(0, 0), 14);
        Check.due("a truth", stands(filled("ward 0;act 0 from 0 to 0 fine 1;prevails:1<1", "or 1<1", "or 1=1;"), 3).code(0, 0), 1);
        Check.due("a truth", stands(filled("ward 0;act 0 from 0 to 0 fine 1;prevails:1=1", "and 1=1", "and 1<1;"), 3).code(0, 0), 0);
        Check.due("beside", stands(filled("ward 0;ward 0;ward 0 beside 0", " 0", " 1;"), 3).ward(2, 1), 3);
        String deep = "not[not[not[";
        Check.due("many deep ones", stands(filled("ward 0;act 0 from 0 to 0 fine 1;prevails:" + deep + "1=1]]]", "and " + deep
            + "1<1]]]", ";"), 3).code(0, 0), 0);
    }

    private static void withoutOne() {
        Check.edge(0, "(without one: no WARDS, no ACTS)");
        DegreeLaws x = new DegreeLaws();
        Check.due("WARDS", x.count(1), 0);
        Check.due("ACTS", x.count(2), 0);
        Check.due("no WARD 0", Check.thrownBy(() -> x.ward(0, 0)), Check.NSE);
        Check.due("no ACT 0", Check.thrownBy(() -> x.act(0, 0)), Check.NSE);
    }

    private static void linesAndSemicolons() {
        Check.edge(0, "{ LINE ; }");
        stands("", 0);
        stands(" \n", 0);
        stands("whole;", 1);
        stands("whole;whole;", 2);
        fault("whole", 2, 5);
        fault("whole;whole", 2, 11);
        fault(";", 2, 0);
        fault("whole;;", 2, 6);
        fault("whole whole;", 2, 6);
        fault("whole:", 2, 5);
    }

    /** A line cut behind each of its tokens, and each token of it put in place by a word that can stand nowhere. */
    private static void form(String ahead, String line) {
        String[] tokens = line.split(" ");
        stands(ahead + line, ahead.isEmpty() ? 1 : 2);
        StringBuilder b = new StringBuilder(ahead);
        for (int i = 0; i < tokens.length; i++) {
            int place = b.length();
            fault(b + "zz " + String.join(" ", java.util.Arrays.asList(tokens).subList(i + 1, tokens.length)), 2, place);
            if (i > 0) {
                fault(b.toString(), 2, place);
            }
            b.append(tokens[i]).append(' ');
        }
    }

    private static void formsOfLines() {
        Check.edge(0, "LINE: ward N [ beside N { N } ] | act N from N to N fine N | degree : SUM | prevails : TRUTH | whole | "
            + "begun | hour N.");
        form("", "ward 1 ;");
        form("ward 5;", "ward 1 beside 0 ;");
        form("ward 5;", "ward 1 beside 0 0 0 ;");
        form("", "act 1 from 2 to 3 fine 4 ;");
        form("", "degree : 1 ;");
        form("", "degree : base + fire - ice * ( hour + day ) - ward ;");
        form("", "prevails : 1 = 2 ;");
        form("", "prevails : not [ act < 1 or kind > 2 and fine = ( span + many ) ] ;");
        form("", "whole ;");
        form("", "begun ;");
        form("", "hour 3 ;");
        fault("ward 1 2;", 2, 7);
        fault("ward 5;ward 1 beside 0 beside 0;", 2, 23);
        fault("ward 5;ward 1 beside;", 2, 20);
        fault("act 1 2 from;", 2, 6);
        fault("act 1 to 3 from 2 fine 4;", 2, 6);
        fault("act 1 from 2 fine 4 to 3;", 2, 13);
        fault("act 1 from 2 to 3;", 2, 17);
        fault("act 1 from 2 to 3 fine 4 5;", 2, 25);
        fault("degree 1;", 2, 7);
        fault("prevails 1=1;", 2, 9);
        fault("degree:1=1;", 2, 8);
        fault("prevails:1;", 2, 10);
        fault("whole 1;", 2, 6);
        fault("hour 1 2;", 2, 7);
        fault("hour:1;", 2, 4);
        fault("ward:1;", 2, 4);
    }

    private static void ofTruths() {
        Check.edge(0, "TRUTH: BOTH { or BOTH }; BOTH: UNIT { and UNIT }");
        codeOf("act=0", 1);
        codeOf("act=0 or act=1", 3);
        codeOf("act=0 or act=1 or act=2", 7);
        codeOf("act=0 and act=1", 0);
        codeOf("act<2 and act>0 and act=1", 2);
        codeOf("act=0 or act=1 and act=2", 1);
        codeOf("act=1 and act=2 or act=0", 1);
        codeOf("[act=0 or act=1] and act=1", 2);
        fault("prevails:or 1=1;", 2, 9);
        fault("prevails:1=1 or;", 2, 15);
        fault("prevails:1=1 and;", 2, 16);
        fault("prevails:1=1 and or 1=1;", 2, 17);
        fault("prevails:1=1 1=1;", 2, 13);
    }

    private static void ofUnits() {
        Check.edge(0, "UNIT: not UNIT, [ TRUTH ], or SUM, one of = < >, SUM");
        codeOf("not act=0", 6);
        codeOf("not not act=0", 1);
        codeOf("not act=0 and act=1", 2);
        codeOf("not act=0 or act=0", 7);
        codeOf("not[act=0 or act=1]", 4);
        codeOf("[[act=0]]", 1);
        codeOf("act<1", 1);
        codeOf("act<2", 3);
        codeOf("act>1", 4);
        codeOf("act>0", 6);
        codeOf("1+1=act*1", 4);
        codeOf("act+1>3-1", 4);
        codeOf("1-2<0", 7);
        fault("prevails:[];", 2, 10);
        fault("prevails:[1=1;", 2, 13);
        fault("prevails:1=1];", 2, 12);
        fault("prevails:[1=1);", 2, 13);
        fault("prevails:not;", 2, 12);
        fault("prevails:1 not=1;", 2, 11);
        fault("prevails:=1;", 2, 9);
        fault("prevails:1=;", 2, 11);
        fault("prevails:1<>1;", 2, 11);
        fault("prevails:1=1=1;", 2, 12);
        fault("prevails:(1=1);", 2, 11);
        fault("prevails:[1]=1;", 2, 11);
        fault("prevails:1=not 1=1;", 2, 11);
        fault("prevails:1=[1=1];", 2, 11);
        fault("degree:not 1;", 2, 7);
        fault("degree:[1];", 2, 7);
    }

    private static void ofSums() {
        Check.edge(0, "SUM: TERM { + TERM | - TERM }; TERM: ATOM { * ATOM }");
        degreeOf("7", 7);
        degreeOf("1+2+3+4", 10);
        degreeOf("90-30-20", 40);
        degreeOf("90-(30-20)", 80);
        degreeOf("90-30+20", 80);
        degreeOf("1+2*3", 7);
        degreeOf("2*3+1", 7);
        degreeOf("(1+2)*3", 9);
        degreeOf("2*3*4", 24);
        degreeOf("50-2*3*4", 26);
        degreeOf("2*(3+4)*5", 70);
        fault("degree:+1;", 2, 7);
        fault("degree:-1;", 2, 7);
        fault("degree:1+;", 2, 9);
        fault("degree:1-;", 2, 9);
        fault("degree:1*;", 2, 9);
        fault("degree:1+-1;", 2, 9);
        fault("degree:1**1;", 2, 9);
        fault("degree:1 1;", 2, 9);
        fault("degree:();", 2, 8);
        fault("degree:(1;", 2, 9);
        fault("degree:1);", 2, 8);
        fault("degree:(1];", 2, 9);
        fault("degree:2(3);", 2, 8);
    }

    private static boolean isAmong(String word, String[] words) {
        return java.util.Arrays.asList(words).contains(word);
    }

    private static void ofAtoms() {
        Check.edge(0, "ATOM: N, ( SUM ), in degree base, fire, ice, hour, day, ward, in prevails act, kind, fine, span, many, "
            + "hour, ward.");
        degreeOf("0", 0);
        degreeOf("99", 99);
        degreeOf("999-900", 99);
        degreeOf("(((5)))", 5);
        for (String[] words : new String[][] {OF_DEGREE, OF_PREVAILS, OTHER_WORDS}) {
            for (String word : words) {
                if (isAmong(word, OF_DEGREE)) {
                    stands("degree:" + word + ";", 1);
                } else {
                    fault("degree:" + word + ";", 2, 7);
                    fault("degree:1+(2*" + word + ");", 2, 12);
                }
                if (isAmong(word, OF_PREVAILS)) {
                    stands("prevails:" + word + "=" + word + ";", 1);
                } else {
                    fault("prevails:" + word + "=1;", 2, 9);
                    fault("prevails:1=" + word + ";", 2, 11);
                }
            }
        }
    }

    /** A law that opens so: n is not, [ and ( are themselves. */
    private static String unit(String opened, int at) {
        if (at >= opened.length()) {
            return "1=1";
        }
        switch (opened.charAt(at)) {
            case 'n':
                return "not " + unit(opened, at + 1);
            case '[':
                return "[" + unit(opened, at + 1) + "]";
            default:
                return "(".repeat(opened.length() - at) + "1" + ")".repeat(opened.length() - at) + "=1";
        }
    }

    private static int placeOfLast(String opened) {
        int place = 0;
        for (int i = 0; i < opened.length() - 1; i++) {
            place += opened.charAt(i) == 'n' ? 4 : 1;
        }
        return place;
    }

    private static void sixWithinOneAnother() {
        Check.edge(0, "At most six of not [ ( within one another.");
        for (int many = 1; many <= 7; many++) {
            for (int bits = 0; bits < 1 << many; bits++) {
                for (int round = 0; round <= many; round++) {
                    StringBuilder b = new StringBuilder();
                    for (int i = 0; i < many; i++) {
                        b.append(i >= many - round ? '(' : (bits >> i & 1) == 0 ? 'n' : '[');
                    }
                    String text = "prevails:" + unit(b.toString(), 0) + ";";
                    if (many <= 6) {
                        stands(text, 1);
                    } else {
                        fault(text, 4, 9 + placeOfLast(b.toString()));
                    }
                }
            }
        }
        degreeOf("((((((8))))))", 8);
        fault("degree:(((((((8)))))));", 4, 13);
        Check.edge(0, "within one another");
        degreeOf("((((((1))))))+((((((2))))))*((((((3))))))", 7);
        stands("prevails:((((((1))))))=((((((1))))))and not not not not not not 1=1 or[[[[[[1=1]]]]]];", 1);
        stands("prevails:not[not[not(1)=(1)and not(1)=(1)]];", 1);
        fault("prevails:[1=((((((1))))))];", 4, 17);
        fault("prevails:[1=1 and((((((1))))))=1];", 4, 22);
        fault("degree:(1+((((((1)))))));", 4, 15);
        fault("prevails:not((((((1))))))=1;", 4, 17);
        fault("prevails:not 1=((((((1))))));", 4, 20);
    }

    private static void wards() {
        Check.edge(0, "ward: its BASE, 0 to 99");
        Check.due("BASE", stands("ward 0;", 1).ward(0, 0), 0);
        Check.due("BASE", stands("ward 99;", 1).ward(0, 0), 99);
        fault("ward 100;", 3, 5);
        fault("ward 999;", 3, 5);
        Check.edge(0, "WARDS told ahead it is beside");
        DegreeLaws x = stands("ward 1;ward 1 beside 0;ward 1 beside 0 1;ward 1 beside 2;ward 1 beside 3 2 1 0;", 5);
        int[] beside = {2 | 4 | 16, 1 | 4 | 16, 1 | 2 | 8 | 16, 4 | 16, 1 | 2 | 4 | 8};
        for (int w = 0; w < 5; w++) {
            Check.due("beside " + w, x.ward(w, 1), beside[w]);
        }
        Check.due("beside none", stands("ward 1;ward 1;", 2).ward(0, 1), 0);
        fault("ward 1 beside 0;", 3, 14);
        fault("ward 1;ward 1 beside 1;", 3, 21);
        fault("ward 1;ward 1 beside 0 1;", 3, 23);
        fault("ward 1;ward 1 beside 2;ward 1;", 3, 21);
        Check.edge(0, "(twice the same: nothing more)");
        DegreeLaws y = stands("ward 1;ward 1;ward 1 beside 1 1 0 1;", 3);
        Check.due("beside 2", y.ward(2, 1), 3);
        Check.due("beside 1", y.ward(1, 1), 4);
        Check.due("beside 0", y.ward(0, 1), 4);
        Check.edge(0, "numbered from 0 on, 5 at most");
        DegreeLaws z = stands("ward 10;ward 11;ward 12;ward 13;ward 14;", 5);
        for (int w = 0; w < 5; w++) {
            Check.due("BASE of " + w, z.ward(w, 0), 10 + w);
        }
        Check.due("no WARD 5", Check.thrownBy(() -> z.ward(5, 0)), Check.NSE);
        fault("ward 10;ward 11;ward 12;ward 13;ward 14;ward 15;", 4, 40);
    }

    private static void acts() {
        Check.edge(0, "act: its KIND, 0 to 9");
        Check.due("KIND", stands("act 0 from 1 to 2 fine 3;", 1).act(0, 0), 0);
        Check.due("KIND", stands("act 9 from 1 to 2 fine 3;", 1).act(0, 0), 9);
        fault("act 10 from 1 to 2 fine 3;", 3, 4);
        Check.edge(0, "two DEGREES, 0 to 99, the second not below the first");
        int[][] degrees = {{0, 0}, {0, 99}, {99, 99}, {50, 50}, {50, 51}};
        for (int[] two : degrees) {
            DegreeLaws x = stands("act 1 from " + two[0] + " to " + two[1] + " fine 3;", 1);
            Check.due("first DEGREE", x.act(0, 1), two[0]);
            Check.due("second DEGREE", x.act(0, 2), two[1]);
        }
        fault("act 1 from 100 to 100 fine 3;", 3, 11);
        fault("act 1 from 0 to 100 fine 3;", 3, 16);
        fault("act 1 from 50 to 49 fine 3;", 3, 17);
        fault("act 1 from 1 to 0 fine 3;", 3, 16);
        Check.edge(0, "FINE 0 to 99");
        Check.due("FINE", stands("act 1 from 1 to 2 fine 0;", 1).act(0, 3), 0);
        Check.due("FINE", stands("act 1 from 1 to 2 fine 99;", 1).act(0, 3), 99);
        fault("act 1 from 1 to 2 fine 100;", 3, 23);
        Check.edge(0, "numbered from 0 on, 8 at most");
        StringBuilder b = new StringBuilder();
        for (int a = 0; a < 8; a++) {
            b.append("act ").append(a).append(" from 1 to 2 fine 3;");
        }
        DegreeLaws x = stands(b.toString(), 8);
        for (int a = 0; a < 8; a++) {
            Check.due("KIND of " + a, x.act(a, 0), a);
        }
        Check.due("no ACT 8", Check.thrownBy(() -> x.act(8, 0)), Check.NSE);
        fault(b + "act 8 from 1 to 2 fine 3;", 4, b.length());
    }

    private static void hours() {
        Check.edge(0, "hour: the first one, 0 to 999 (0)");
        Check.due("HOUR", stands("hour 0;", 1).count(4), 0);
        Check.due("HOUR", stands("hour 999;", 1).count(4), 999);
        Check.due("HOUR", stands("whole;", 1).count(4), 0);
        fault("hour 1000;", 1, 5);
    }

    private static void measures() {
        Check.edge(0, "whole, begun: how deeds are measured (begun)");
        Check.due("begun", stands("ward 1;", 1).count(6), 0);
        Check.due("begun", stands("begun;", 1).count(6), 0);
        Check.due("whole", stands("whole;", 1).count(6), 1);
    }

    private static void laterOnesStrike() {
        Check.edge(0, "Later ones of degree, prevails, whole and begun, hour strike.");
        Check.due("degree", stands("degree:5;ward 1;degree:6;", 3).degree(0, 0), 6);
        String acts = "ward 1;act 1 from 0 to 9 fine 1;act 1 from 0 to 9 fine 1;";
        Check.due("prevails", stands("prevails:act=0;" + acts + "prevails:act=1;", 5).code(0, 0), 2);
        Check.due("a short law behind a long one", stands("degree:1+2+3+4+5+6*7;ward 1;degree:2;", 3).degree(0, 0), 2);
        Check.due("begun", stands("whole;begun;", 2).count(6), 0);
        Check.due("whole", stands("begun;whole;", 2).count(6), 1);
        Check.due("hour", stands("hour 7;hour 8;", 2).count(4), 8);
        Check.due("hour 0", stands("hour 7;hour 0;", 2).count(4), 0);
    }

    private static void blanks() {
        Check.edge(0, "TOKENS, as long as they go, between them blanks (10, 32)");
        stands("ward1;ward2beside0;act3from4to5fine6;degree:base+1;hour12;", 5);
        stands("  ward\n\n1\n ;  \n", 1);
        fault("wardbeside", 2, 0);
        fault("wholewhole;", 2, 0);
        fault("who le;", 2, 0);
        fault("ward 1 0;", 2, 7);
        Check.due("BASE", stands("ward 12 ;", 1).ward(0, 0), 12);
        fault("notnot", 2, 0);
        fault("prevails:notnot 1=1;", 2, 9);
        fault("prevails:not1=not 1;", 2, 14);
        stands("prevails:not1=1;", 1);
    }

    private static void tokens() {
        Check.edge(0, "words (small letters), N (1 to 3 digits), the signs ; : + - * ( ) [ ] = < >.");
        for (int c = 0; c < 256; c++) {
            boolean blank = c == 10 || c == 32;
            boolean token = c >= 'a' && c <= 'z' || c >= '0' && c <= '9' || c != 0 && ";:+-*()[]=<>".indexOf(c) >= 0;
            String text = "whole;" + (char) c;
            if (blank) {
                stands(text, 1);
            } else {
                fault(text, token ? 2 : 1, 6);
            }
            if (!blank && !token) {
                fault("ward" + (char) c + "1;", 1, 4);
                fault("ward 1" + (char) c, 1, 6);
            }
        }
        Check.due("1 digit", stands("hour 7;", 1).count(4), 7);
        Check.due("2 digits", stands("hour 07;", 1).count(4), 7);
        Check.due("3 digits", stands("hour 007;", 1).count(4), 7);
        fault("hour 0007;", 1, 5);
    }

    private static void firstAlongTheText() {
        Check.edge(0, "FAULTS, the first along the text");
        fault("ward 100;?", 3, 5);
        fault("ward ;?", 2, 5);
        fault("ward ?;ward 100;", 1, 5);
        fault("degree:(((((((1;?", 4, 13);
        fault("act 10 from 100 to 100 fine 100;", 3, 4);
        fault("act 1 from 100 to 2 fine 100;", 3, 11);
        Check.edge(0, "of one TOKEN the least kind");
        // a number of 4 digits where none can stand; a seventh where it can't stand
        fault("whole 1234;", 1, 6);
        fault("ward 1234;", 1, 5);
        fault("degree:((((((1(", 2, 14);
        fault("degree:((((((not", 2, 13);
        fault("prevails:((((((not 1", 2, 15);
        fault("prevails:[[[[[[1[", 2, 16);
        // 100 where no number can stand
        fault("whole 100;", 2, 6);
        fault("ward 1;ward 1;ward 1;ward 1;ward 1;hour ward", 2, 40);
    }

    private static void faultOne() {
        Check.edge(0, "1 no TOKEN begins so (4 digits and more: at their first)");
        fault("Ward 1;", 1, 0);
        fault("wArd 1;", 2, 0);
        fault("ward A;", 1, 5);
        fault("ward 1;\t", 1, 7);
        fault("ward 1;\r\n", 1, 7);
        fault("degree:1/2;", 1, 8);
        fault("prevails:1!=1;", 1, 10);
        fault("ward 1234;", 1, 5);
        fault("ward 12345678901234567890;", 1, 5);
        fault("ward 0000;", 1, 5);
        fault("prevails:1<\u00e4;", 1, 11);
        stands("ward 012;", 1);
    }

    private static void faultTwo() {
        Check.edge(0, "2 it can't stand there (the end: the text's length; a word of the other law)");
        fault("ward", 2, 4);
        fault("ward   ", 2, 7);
        fault("ward 1\n\n", 2, 8);
        fault("degree:", 2, 7);
        fault("degree:act;", 2, 7);
        fault("prevails:base=1;", 2, 9);
        fault("prevails:1=day;", 2, 11);
        DegreeLaws x = new DegreeLaws();
        Check.feedText(x, "hour 123;");
        // what lies on the tape behind the text is no part of it
        Check.due("land(7)", x.land(7), -12);
        Check.due("the end", x.fault(1), 7);
        Check.feedText(x, "hour 1234;");
        Check.due("land(8)", x.land(8), -12);
        Check.due("the end behind three digits", x.fault(1), 8);
        Check.feedText(x, "whole;");
        Check.due("land(4)", x.land(4), -12);
        Check.due("a word cut off", x.fault(1), 0);
    }

    private static void faultThree() {
        Check.edge(0, "3 N is out of its bounds (a WARD that isn't told ahead; a second DEGREE below the first)");
        fault("ward 1;ward 1 beside 1;", 3, 21);
        fault("ward 1 beside 0;", 3, 14);
        stands("ward 1;ward 1 beside 0;", 2);
        fault("act 1 from 7 to 6 fine 1;", 3, 16);
        stands("act 1 from 7 to 7 fine 1;", 1);
        fault("ward 100", 3, 5);
    }

    private static void faultFour() {
        Check.edge(0, "4 the first TOKEN of a 6th ward, a 9th act; a seventh of not [ (.");
        String five = "ward 1;ward 1;ward 1;ward 1;ward 1;";
        stands(five, 5);
        fault(five + "ward 1;", 4, 35);
        fault(five + "ward", 4, 35);
        fault(five + "\n ward ?", 4, 37);
        stands(five + ACT, 6);
        String eight = ACT.repeat(8);
        stands(eight, 8);
        fault(eight + ACT, 4, 200);
        fault(eight + "act", 4, 200);
        stands(eight + five, 13);
        fault("prevails:[[[[[[[1=1]]]]]]];", 4, 15);
        fault("prevails:not not not not not not not 1=1;", 4, 33);
        fault("prevails:1=(((((((1)))))));", 4, 17);
    }
}
