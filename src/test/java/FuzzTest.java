import java.lang.reflect.InvocationTargetException;
import java.lang.reflect.Method;
import java.util.ArrayList;
import java.util.Arrays;
import java.util.HashMap;
import java.util.List;
import java.util.Map;
import java.util.Random;

/** Runs of drawn calls, on DegreeLaws and on the Oracle alike: all answers and throws must be the same. */
public final class FuzzTest {
    private static final Map<String, Method> OURS = new HashMap<>();
    private static final Map<String, Method> THEIRS = new HashMap<>();
    private static final String[] QUERIES = {
        "fault", "ward", "act", "degree", "code", "fine", "lawful", "soonest", "where", "cheapest", "freeHours", "spell",
        "lawless", "alwaysBarred", "strictest", "heat", "leastHeat", "cover", "widen", "heaviest", "freeWay", "freeAt",
        "wayFine", "freeWays", "guard", "errands", "bestOrder", "seen", "breath", "look", "judge", "count", "copy"};
    private static final String[] DEEDS = {
        "fire", "ice", "amend", "repeal", "hours", "done", "undo", "perform", "season", "image", "restore", "tray", "write"};

    private final Random random;
    private final DegreeLaws ours = new DegreeLaws();
    private final Oracle theirs = new Oracle();
    private final List<String> run = new ArrayList<>();
    private int wrong = 0;

    private FuzzTest(long seed) {
        random = new Random(seed);
    }

    public static void main(String[] args) {
        for (Method m : DegreeLaws.class.getDeclaredMethods()) {
            if (java.lang.reflect.Modifier.isPublic(m.getModifiers())) {
                OURS.put(m.getName(), m);
            }
        }
        for (Method m : Oracle.class.getDeclaredMethods()) {
            if (OURS.containsKey(m.getName())) {
                THEIRS.put(m.getName(), m);
            }
        }
        int runs = args.length > 0 ? Integer.parseInt(args[0]) : 1500;
        int first = args.length > 1 ? Integer.parseInt(args[1]) : 1;
        long calls = 0;
        for (int seed = first; seed < first + runs; seed++) {
            FuzzTest test = new FuzzTest(seed);
            test.go();
            calls += test.run.size();
            if (test.wrong > 0) {
                System.out.println("seed " + seed);
                System.exit(1);
            }
        }
        calls += extremes();
        System.out.println(runs + " runs of " + calls + " calls in all, all alike");
    }

    /** Every call with the least and greatest numbers and those at the edges, without a land and with two. */
    private static long extremes() {
        int[] edges = {Integer.MIN_VALUE, -1, 0, 1, 9, 60, 1000, Integer.MAX_VALUE};
        long calls = 0;
        for (int state = 0; state < 3; state++) {
            for (Method m : OURS.values()) {
                FuzzTest test = new FuzzTest(state);
                if (state > 0) {
                    test.tell("ward 9;ward 8 beside 0;act 1 from 0 to 20 fine 3;act 0 from 5 to 99 fine 0;degree:base+hour"
                        + (state == 1 ? ";" : ";whole;prevails:many=1;"));
                    test.call("tray", 0, 3, 1);
                    test.call("write", 0, 0, 1101L);
                    test.call("tray", 1, 3, 1);
                    test.call("write", 1, 0, -1L);
                }
                int many = m.getParameterCount();
                int all = 1;
                for (int i = 0; i < many; i++) {
                    all *= edges.length;
                }
                // Of feed's five numbers none is at an edge.
                for (int i = 0; i < all && i < 4096; i++) {
                    Object[] args = new Object[many];
                    int rest = i;
                    for (int k = 0; k < many; k++) {
                        int v = edges[rest % edges.length];
                        rest /= edges.length;
                        args[k] = m.getParameterTypes()[k] == long.class ? (Object) (long) v : (Object) v;
                    }
                    test.call(m.getName(), args);
                }
                calls += test.run.size();
                if (test.wrong > 0) {
                    System.out.println("extremes of " + m);
                    System.exit(1);
                }
            }
        }
        return calls;
    }

    private void go() {
        // Now and then none stands: then little but throws and empty answers comes.
        for (int i = 0; i < 3 && ours.count(0) == 0; i++) {
            tellLand();
        }
        int many = 30 + random.nextInt(60);
        for (int i = 0; i < many && wrong == 0; i++) {
            int what = random.nextInt(100);
            if (what < 2) {
                tellLand();
            } else if (what < 7) {
                tellTray();
            } else if (what < 40) {
                drawCall(DEEDS[random.nextInt(DEEDS.length)]);
            } else {
                drawCall(QUERIES[random.nextInt(QUERIES.length)]);
            }
        }
    }

    // ---- lands

    private int below(int n) {
        return random.nextInt(n);
    }

    private String of(String... some) {
        return some[below(some.length)];
    }

    private String sum(int depth, String... names) {
        StringBuilder b = new StringBuilder(term(depth, names));
        int more = below(3);
        for (int i = 0; i < more; i++) {
            b.append(of("+", "-", " + ", "-\n")).append(term(depth, names));
        }
        return b.toString();
    }

    private String term(int depth, String... names) {
        StringBuilder b = new StringBuilder(atom(depth, names));
        while (below(4) == 0) {
            b.append("*").append(atom(depth, names));
        }
        return b.toString();
    }

    private String atom(int depth, String... names) {
        int what = below(10);
        if (what < 3) {
            return "" + (below(5) == 0 ? below(1000) : below(30));
        }
        if (what < 4 && depth > 0) {
            return "(" + sum(depth - 1, names) + ")";
        }
        return of(names);
    }

    private String truth(int depth) {
        StringBuilder b = new StringBuilder(unit(depth));
        while (below(3) == 0) {
            b.append(of(" and ", " or ", "\nor\n")).append(unit(depth));
        }
        return b.toString();
    }

    private String unit(int depth) {
        String[] names = {"act", "kind", "fine", "span", "many", "hour", "ward"};
        int what = below(10);
        if (what < 2 && depth > 0) {
            return "not " + unit(depth - 1);
        }
        if (what < 3 && depth > 0) {
            return "[" + truth(depth - 1) + "]";
        }
        return sum(depth, names) + of("=", "<", ">", " > ") + sum(depth, names);
    }

    private String landText() {
        List<String> lines = new ArrayList<>();
        int wards = below(12) == 0 ? below(7) : 1 + below(5);
        for (int w = 0; w < wards; w++) {
            StringBuilder b = new StringBuilder("ward " + below(100));
            if (w > 0 && below(5) > 0) {
                b.append(" beside");
                for (int i = 0; i <= below(3); i++) {
                    b.append(" ").append(below(w));
                }
            }
            lines.add(b.toString());
        }
        int acts = below(12) == 0 ? below(10) : below(9);
        int kinds = 1 + below(3);
        // Where most degrees are spoken of, little is lawful.
        boolean strict = below(2) == 0;
        for (int a = 0; a < acts; a++) {
            int from = strict ? below(30) * below(3) : below(80);
            int to = strict ? Math.min(99, from + 20 + below(80)) : from + below(Math.min(100 - from, 5 + below(60)));
            int fine = below(6) == 0 ? 0 : below(12) == 0 ? 99 : below(100);
            lines.add("act " + below(kinds) + " from " + from + " to " + to + " fine " + fine);
        }
        if (below(4) > 0) {
            String law = below(2) == 0 ? of("base+fire-ice+hour", "base+fire-ice+hour*2-ward*3", "base+hour*(day+1)+fire-ice",
                "base+fire-ice+(hour-12)*(hour-12)-40", "hour*4", "base+fire*2-ice*2+day*3-hour")
                : sum(below(7), "base", "fire", "ice", "hour", "day", "ward");
            lines.add(below(lines.size() + 1), "degree:" + law);
        }
        if (below(2) == 0) {
            String law = below(2) == 0 ? of("many=1 or fine>30", "span<30", "hour>6 and hour<20 or many>2", "not act=1",
                "act+hour>8", "fine*many>60", "[ward=0 or hour<12] and span>5") : truth(below(7));
            lines.add(below(lines.size() + 1), "prevails : " + law);
        }
        if (below(2) == 0) {
            lines.add(below(lines.size() + 1), of("whole", "begun", "whole"));
        }
        if (below(2) == 0) {
            lines.add(below(lines.size() + 1), "hour " + below(below(2) == 0 ? 30 : 1000));
        }
        StringBuilder b = new StringBuilder();
        for (String line : lines) {
            b.append(line).append(of(";", ";", " ; ", ";\n"));
        }
        return below(4) == 0 ? spoiled(b) : b.toString();
    }

    private String spoiled(StringBuilder b) {
        int times = 1 + below(2);
        for (int i = 0; i < times && b.length() > 0; i++) {
            int at = below(b.length());
            switch (below(4)) {
                case 0:
                    b.deleteCharAt(at);
                    break;
                case 1:
                    b.insert(at, of(" ", ";", "(", ")", "[", "]", "not ", "7", "99", "1000", "?", "\t", "ward ", "+", "*", "=",
                        "beside 0", "act", "\u00e9", "\n", ",", "x", "(((((((1", "hour", "[[["));
                    break;
                case 2:
                    b.setCharAt(at, ";:+-*()[]=<> 0123456789awz/".charAt(below(27)));
                    break;
                default:
                    b.setLength(at);
            }
        }
        return b.toString();
    }

    private void tellLand() {
        String text = landText();
        tell(text.length() > 900 ? text.substring(0, 900) : text);
    }

    private void tell(String text) {
        for (int at = 0; at < text.length(); at += 20) {
            int[] five = new int[5];
            for (int k = 0; k < 20; k++) {
                five[k / 4] = five[k / 4] << 8 | (at + k < text.length() ? text.charAt(at + k) : 32);
            }
            call("feed", five[0], five[1], five[2], five[3], five[4]);
        }
        if (below(15) == 0) {
            call("land", text.length() + 20);
        }
        call("land", text.length());
        for (int i = 0; i < 2; i++) {
            call("fault", i);
        }
        for (int i = 0; i < 9; i++) {
            call("count", i);
        }
    }

    // ---- trays that mean something

    private long toldOne() {
        int w = below(6) == 0 ? below(10) : below(Math.max(1, ours.count(1)));
        switch (below(8)) {
            case 0:
                return -1;
            case 1:
                return 20000 + 100 * w + below(62);
            case 2:
                return 30000 + 100 * w + below(62);
            case 3:
                return 40000 + below(9);
            case 4:
                return below(5) == 0 ? random.nextLong() : below(45000) - 5;
            default:
                return 1000 * aKind() + 100 * w + 1 + below(24);
        }
    }

    private void tellTray() {
        int tray = below(4);
        int what = below(3);
        int many = what == 0 ? below(12) : what == 1 ? 1 + below(4) : 1 + below(6);
        call("tray", tray, 2 + below(2), many);
        int kind = aKind();
        int w = below(Math.max(1, ours.count(1)));
        int d = below(41) - 20;
        for (int i = 0; i < many; i++) {
            long v;
            if (what == 0) {
                v = toldOne();
            } else if (what == 1) {
                v = 1000 * aKind() + 100 * below(Math.max(1, ours.count(1))) + 1 + below(24);
            } else {
                boolean unseen = below(4) == 0 || ours.count(1) == 0 || i >= ours.count(4);
                v = unseen ? -1 : below(30) == 0 ? below(800) : theirs.finedAgo(kind, w, i + 1, d);
            }
            call("write", tray, i, v);
        }
        if (what == 0) {
            for (int i = 0; i < 4; i++) {
                call("judge", tray, i);
            }
            call("perform", tray);
        } else if (what == 1) {
            call("errands", tray);
            call("bestOrder", tray, 0);
            call("bestOrder", tray, 10 + below(4));
        } else {
            call("seen", tray, kind, w);
            call("breath", tray, kind, w, below(5));
            call("look", tray, kind, w);
        }
    }

    // ---- calls

    private int argument(String type) {
        boolean odd = below(25) == 0;
        switch (type) {
            case "w":
                return odd ? below(9) - 2 : below(Math.max(1, ours.count(1)));
            case "a":
                return odd ? below(12) - 2 : below(Math.max(1, ours.count(2)));
            case "kind":
                return odd ? below(14) - 2 : aKind();
            case "n":
                return odd ? below(1010) - 5 : below(below(3) == 0 ? 1000 : 60);
            case "lasts":
                return odd ? below(29) - 2 : 1 + below(below(2) == 0 ? 24 : 4);
            case "what":
                return odd ? below(14) - 2 : below(2);
            case "tray":
                return odd ? below(8) - 2 : below(4);
            default:
                return below(100);
        }
    }

    private int aKind() {
        int acts = ours.count(2);
        return acts == 0 || below(8) == 0 ? below(10) : ours.act(below(acts), 0);
    }

    private int odd(int least, int many) {
        return below(20) == 0 ? below(2) == 0 ? least - 1 : least + many : least + below(many);
    }

    private void drawCall(String name) {
        int w = argument("w");
        int a = argument("a");
        int kind = argument("kind");
        int n = argument("n");
        int lasts = argument("lasts");
        int what = argument("what");
        int tray = argument("tray");
        switch (name) {
            case "fault": case "count": call(name, below(12) - 1); break;
            case "ward": call(name, w, odd(0, 6)); break;
            case "act": call(name, a, odd(0, 5)); break;
            case "degree": case "code": call(name, w, n); break;
            case "fine": case "lawful": case "heat": call(name, kind, w, n, lasts); break;
            case "fire": case "ice": call(name, w, odd(0, 61), odd(1, 99)); break;
            case "amend": call(name, a, odd(0, 60), odd(30, 70)); break;
            case "repeal":
                if (below(3) == 0) {
                    call(name, a);
                }
                break;
            case "hours": call(name, odd(1, below(2) == 0 ? 5 : 99)); break;
            case "done": case "soonest": case "cheapest": call(name, kind, w, lasts); break;
            case "leastHeat":
                if (below(3) == 0) {
                    call(name, kind, w, lasts);
                }
                break;
            case "undo": call(name, odd(1, below(2) == 0 ? 3 : 10)); break;
            case "judge": call(name, tray, odd(0, 4)); break;
            case "perform": case "errands": call(name, tray); break;
            case "season": call(name, random.nextInt(), odd(1, below(3) == 0 ? 30 : 5)); break;
            case "where": call(name, kind, lasts); break;
            case "freeHours": call(name, kind, w, odd(1, 200)); break;
            case "spell": call(name, kind, w, odd(1, 200), what); break;
            case "lawless": case "heaviest": call(name, w); break;
            case "alwaysBarred": case "strictest": call(name); break;
            case "cover": call(name, kind, w, what); break;
            case "widen": call(name, a, w); break;
            case "freeWay": case "guard": call(name, kind, w, argument("w")); break;
            case "freeAt": call(name, kind, w, argument("w"), below(8) - 1); break;
            case "wayFine": call(name, kind, w, argument("w"), odd(0, 61)); break;
            case "freeWays": call(name, kind, w, argument("w"), odd(0, 21)); break;
            case "bestOrder": call(name, tray, below(3) == 0 ? 0 : 9 + below(6)); break;
            case "seen": case "look": call(name, tray, kind, w); break;
            case "breath": call(name, tray, kind, w, below(8) - 1); break;
            case "tray": call(name, tray, odd(0, 4), odd(0, 31)); break;
            case "write": call(name, tray, below(8) - 1, toldOne()); break;
            case "copy": call(name, tray, w); break;
            default: call(name, odd(0, 3));
        }
    }

    private static String answer(Method m, Object on, Object... args) {
        try {
            return String.valueOf(m.invoke(on, args));
        } catch (InvocationTargetException e) {
            return "throws." + e.getCause().getClass().getName();
        } catch (IllegalAccessException e) {
            throw new IllegalStateException(e);
        }
    }

    private void call(String name, Object... args) {
        String got = answer(OURS.get(name), ours, args);
        String want = answer(THEIRS.get(name), theirs, args);
        run.add(name + Arrays.toString(args) + " -> " + got);
        if (!got.equals(want)) {
            wrong++;
            run.forEach(System.out::println);
            System.out.println("due is " + want);
        }
    }
}
