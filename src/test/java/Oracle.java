import java.util.ArrayList;
import java.util.HashMap;
import java.util.List;
import java.util.Map;
import java.util.NoSuchElementException;
import java.util.TreeSet;

/**
 * The document told once more, as plainly and as slowly as can be, to compare DegreeLaws with: nothing is kept ready,
 * every state is a copy, every way is gone by itself where that ends in time.
 */
final class Oracle {
    private static final class Fault extends RuntimeException {
        private static final long serialVersionUID = 1L;
        final int kind;
        final int place;

        Fault(int kind, int place) {
            this.kind = kind;
            this.place = place;
        }
    }

    private record Token(String text, char sort, int place) {
    }

    private interface Node {
        long of(Map<String, Integer> names);
    }

    private record Laid(int degrees, int since, int hours) {
        int in(int hour) {
            return hour >= since && hour < since + hours ? degrees : 0;
        }
    }

    private static final Laid NOTHING = new Laid(0, 0, 0);

    private static final class Act {
        int kind;
        int from;
        int to;
        int fine;
        boolean repealed;

        Act copied() {
            Act a = new Act();
            a.kind = kind;
            a.from = from;
            a.to = to;
            a.fine = fine;
            a.repealed = repealed;
            return a;
        }
    }

    private static final class World {
        int lines;
        int hour;
        int paid;
        boolean whole;
        Node degree;
        Node prevails;
        List<Integer> bases = new ArrayList<>();
        List<TreeSet<Integer>> beside = new ArrayList<>();
        List<Act> acts = new ArrayList<>();
        List<Laid> fires = new ArrayList<>();
        List<Laid> ices = new ArrayList<>();

        World copied() {
            World c = new World();
            c.lines = lines;
            c.hour = hour;
            c.paid = paid;
            c.whole = whole;
            c.degree = degree;
            c.prevails = prevails;
            c.bases = bases;
            c.beside = beside;
            for (Act a : acts) {
                c.acts.add(a.copied());
            }
            c.fires.addAll(fires);
            c.ices.addAll(ices);
            return c;
        }
    }

    private static final int NONE = -1;

    private String tape = "";
    private int fault = 0;
    private int place = NONE;
    private World world = new World();
    private List<World> undone = new ArrayList<>();
    private final long[][] trays = new long[4][];
    private final int[] sorts = new int[4];
    private final World[] images = new World[3];
    private final List<List<World>> imagesUndone = new ArrayList<>(List.of(List.of(), List.of(), List.of()));

    // ---- the text

    private static List<Token> tokens(String text) {
        List<Token> all = new ArrayList<>();
        int i = 0;
        while (i < text.length()) {
            char c = text.charAt(i);
            int j = i + 1;
            if (c == '\n' || c == ' ') {
                i++;
                continue;
            }
            if ("abcdefghijklmnopqrstuvwxyz".indexOf(c) >= 0) {
                while (j < text.length() && text.substring(j, j + 1).matches("[a-z]")) {
                    j++;
                }
                all.add(new Token(text.substring(i, j), 'w', i));
            } else if ("0123456789".indexOf(c) >= 0) {
                while (j < text.length() && text.substring(j, j + 1).matches("[0-9]")) {
                    j++;
                }
                all.add(new Token(text.substring(i, j), j - i > 3 ? '?' : 'n', i));
            } else {
                all.add(new Token(text.substring(i, j), ";:+-*()[]=<>".indexOf(c) >= 0 ? 's' : '?', i));
            }
            i = j;
        }
        all.add(new Token("", 'e', text.length()));
        return all;
    }

    private static final class Parser {
        final List<Token> tokens;
        int at = 0;
        World w = new World();
        boolean inDegree;

        Parser(String text) {
            tokens = tokens(text);
        }

        Token now() {
            return tokens.get(at);
        }

        boolean is(String text) {
            return now().sort != '?' && now().sort != 'e' && now().text.equals(text);
        }

        Fault misplaced() {
            return new Fault(now().sort == '?' ? 1 : 2, now().place);
        }

        void must(String text) {
            if (!is(text)) {
                throw misplaced();
            }
            at++;
        }

        int n(int least, int most) {
            if (now().sort != 'n') {
                throw misplaced();
            }
            int v = Integer.parseInt(now().text);
            if (v < least || v > most) {
                throw new Fault(3, now().place);
            }
            at++;
            return v;
        }

        World parse() {
            while (now().sort != 'e') {
                line();
                must(";");
                w.lines++;
            }
            return w;
        }

        void line() {
            if (is("ward")) {
                if (w.bases.size() == 5) {
                    throw new Fault(4, now().place);
                }
                at++;
                int me = w.bases.size();
                int base = n(0, 99);
                TreeSet<Integer> by = new TreeSet<>();
                if (is("beside")) {
                    at++;
                    by.add(n(0, me - 1));
                    while (now().sort == 'n') {
                        by.add(n(0, me - 1));
                    }
                }
                for (int o : by) {
                    w.beside.get(o).add(me);
                }
                w.bases.add(base);
                w.beside.add(by);
                w.fires.add(NOTHING);
                w.ices.add(NOTHING);
            } else if (is("act")) {
                if (w.acts.size() == 8) {
                    throw new Fault(4, now().place);
                }
                at++;
                Act a = new Act();
                a.kind = n(0, 9);
                must("from");
                a.from = n(0, 99);
                must("to");
                a.to = n(a.from, 99);
                must("fine");
                a.fine = n(0, 99);
                w.acts.add(a);
            } else if (is("degree")) {
                at++;
                must(":");
                inDegree = true;
                w.degree = sum(6);
            } else if (is("prevails")) {
                at++;
                must(":");
                inDegree = false;
                w.prevails = truth(6);
            } else if (is("whole") || is("begun")) {
                w.whole = is("whole");
                at++;
            } else if (is("hour")) {
                at++;
                w.hour = n(0, 999);
            } else {
                throw misplaced();
            }
        }

        void deeper(int left) {
            if (left == 0) {
                throw new Fault(4, now().place);
            }
            at++;
        }

        Node truth(int left) {
            Node a = both(left);
            while (is("or")) {
                at++;
                Node l = a;
                Node r = both(left);
                a = m -> l.of(m) == 1 || r.of(m) == 1 ? 1 : 0;
            }
            return a;
        }

        Node both(int left) {
            Node a = unit(left);
            while (is("and")) {
                at++;
                Node l = a;
                Node r = unit(left);
                a = m -> l.of(m) == 1 && r.of(m) == 1 ? 1 : 0;
            }
            return a;
        }

        Node unit(int left) {
            if (is("not")) {
                deeper(left);
                Node a = unit(left - 1);
                return m -> a.of(m) == 1 ? 0 : 1;
            }
            if (is("[")) {
                deeper(left);
                Node a = truth(left - 1);
                must("]");
                return a;
            }
            Node l = sum(left);
            String sign = now().text;
            if (!is("=") && !is("<") && !is(">")) {
                throw misplaced();
            }
            at++;
            Node r = sum(left);
            return m -> {
                int c = Long.compare(l.of(m), r.of(m));
                return (sign.equals("=") ? c == 0 : sign.equals("<") ? c < 0 : c > 0) ? 1 : 0;
            };
        }

        Node sum(int left) {
            Node a = term(left);
            while (is("+") || is("-")) {
                int sign = is("+") ? 1 : -1;
                at++;
                Node l = a;
                Node r = term(left);
                a = m -> kept(l.of(m) + sign * r.of(m));
            }
            return a;
        }

        Node term(int left) {
            Node a = atom(left);
            while (is("*")) {
                at++;
                Node l = a;
                Node r = atom(left);
                a = m -> kept(l.of(m) * r.of(m));
            }
            return a;
        }

        Node atom(int left) {
            if (now().sort == 'n') {
                int v = n(0, 999);
                return m -> v;
            }
            if (is("(")) {
                deeper(left);
                Node a = sum(left - 1);
                must(")");
                return a;
            }
            List<String> words = inDegree ? List.of("base", "fire", "ice", "hour", "day", "ward")
                : List.of("act", "kind", "fine", "span", "many", "hour", "ward");
            if (now().sort == 'w' && words.contains(now().text)) {
                String name = now().text;
                at++;
                return m -> m.get(name);
            }
            throw misplaced();
        }
    }

    private static long kept(long v) {
        return Math.max(-1_000_000, Math.min(1_000_000, v));
    }

    // ---- what the terms mean

    private static int kept99(long v) {
        return (int) Math.max(0, Math.min(99, v));
    }

    private int wards() {
        return world.bases.size();
    }

    private int degreeIn(int w, int hour) {
        int fire = world.fires.get(w).in(hour);
        int ice = world.ices.get(w).in(hour);
        if (world.degree == null) {
            return kept99(world.bases.get(w) + fire - ice);
        }
        Map<String, Integer> m = new HashMap<>();
        m.put("base", world.bases.get(w));
        m.put("fire", fire);
        m.put("ice", ice);
        m.put("hour", hour % 24);
        m.put("day", hour / 24 % 1000);
        m.put("ward", w);
        return kept99(world.degree.of(m));
    }

    private List<Integer> force(int w, int hour, int degree) {
        List<Integer> speaking = new ArrayList<>();
        for (int a = 0; a < world.acts.size(); a++) {
            Act act = world.acts.get(a);
            if (!act.repealed && act.from <= degree && degree <= act.to) {
                speaking.add(a);
            }
        }
        if (world.prevails == null) {
            return speaking;
        }
        List<Integer> strong = new ArrayList<>();
        for (int a : speaking) {
            Act act = world.acts.get(a);
            int many = 0;
            for (int b : speaking) {
                many += world.acts.get(b).kind == act.kind ? 1 : 0;
            }
            Map<String, Integer> m = new HashMap<>();
            m.put("act", a);
            m.put("kind", act.kind);
            m.put("fine", act.fine);
            m.put("span", act.to - act.from);
            m.put("many", many);
            m.put("hour", hour % 24);
            m.put("ward", w);
            if (world.prevails.of(m) == 1) {
                strong.add(a);
            }
        }
        return strong;
    }

    /** What a kind is fined there, were it d warmer; NONE: it isn't barred. */
    private int bar(int kind, int w, int hour, int d) {
        int sum = NONE;
        for (int a : force(w, hour, kept99(degreeIn(w, hour) + d))) {
            if (world.acts.get(a).kind == kind) {
                sum = Math.max(sum, 0) + world.acts.get(a).fine;
            }
        }
        return sum;
    }

    private int fined(int kind, int w, int hour, int d) {
        return Math.max(0, bar(kind, w, hour, d));
    }

    int finedAgo(int kind, int w, int ago, int d) {
        return fined(kind, w, world.hour - ago, d);
    }

    private boolean lawfulAt(int kind, int w, int hour, int lasts, int d) {
        for (int k = 0; k < (world.whole ? lasts : 1); k++) {
            if (bar(kind, w, hour + k, d) != NONE) {
                return false;
            }
        }
        return true;
    }

    private int fineAt(int kind, int w, int hour, int lasts) {
        int sum = 0;
        for (int k = 0; k < (world.whole ? lasts : 1); k++) {
            sum += fined(kind, w, hour + k, 0);
        }
        return sum;
    }

    private static int bits(Iterable<Integer> all) {
        int b = 0;
        for (int i : all) {
            b |= 1 << i;
        }
        return b;
    }

    private void needWard(int w) {
        if (w < 0 || w >= wards()) {
            throw new NoSuchElementException();
        }
    }

    private void needAct(int a) {
        if (a < 0 || a >= world.acts.size()) {
            throw new NoSuchElementException();
        }
    }

    private static void need(boolean holds) {
        if (!holds) {
            throw new IllegalArgumentException();
        }
    }

    private void needTray(int t) {
        if (t < 0 || t > 3) {
            throw new NoSuchElementException();
        }
    }

    private void needPlaced(int t) {
        if (trays[t] == null) {
            throw new IllegalStateException();
        }
    }

    private static void needKind(int kind) {
        need(kind >= 0 && kind <= 9);
    }

    private static void needLasts(int lasts) {
        need(lasts >= 1 && lasts <= 24);
    }

    // ---- the land

    int feed(int a, int b, int c, int d, int e) {
        if (tape.length() > 880) {
            return NONE;
        }
        for (int v : new int[] {a, b, c, d, e}) {
            tape += "" + (char) (v >>> 24) + (char) (v >>> 16 & 255) + (char) (v >>> 8 & 255) + (char) (v & 255);
        }
        return tape.length();
    }

    int land(int n) {
        need(n >= 0 && n <= tape.length());
        String text = tape.substring(0, n);
        tape = "";
        try {
            world = new Parser(text).parse();
        } catch (Fault f) {
            fault = f.kind;
            place = f.place;
            return -10 - f.kind;
        }
        fault = 0;
        place = NONE;
        undone = new ArrayList<>();
        return world.lines;
    }

    int fault(int what) {
        return what == 0 ? fault : what == 1 ? place : NONE;
    }

    int ward(int w, int what) {
        needWard(w);
        need(what >= 0 && what <= 5);
        Laid laid = what % 2 == 0 ? world.fires.get(w) : world.ices.get(w);
        if (what == 0) {
            return world.bases.get(w);
        }
        if (what == 1) {
            return bits(world.beside.get(w));
        }
        return what < 4 ? laid.in(world.hour) : Math.max(0, laid.since + laid.hours - world.hour);
    }

    int act(int a, int what) {
        needAct(a);
        need(what >= 0 && what <= 4);
        Act x = world.acts.get(a);
        return new int[] {x.kind, x.from, x.to, x.fine, x.repealed ? 1 : 0}[what];
    }

    int degree(int w, int n) {
        needWard(w);
        need(n >= 0 && n <= 999);
        return degreeIn(w, world.hour + n);
    }

    private List<Integer> codeAt(int w, int n) {
        return force(w, world.hour + n, degreeIn(w, world.hour + n));
    }

    int code(int w, int n) {
        needWard(w);
        need(n >= 0 && n <= 999);
        return bits(codeAt(w, n));
    }

    int fine(int kind, int w, int n, int lasts) {
        needWard(w);
        needKind(kind);
        need(n >= 0 && n <= 999);
        needLasts(lasts);
        return fineAt(kind, w, world.hour + n, lasts);
    }

    boolean lawful(int kind, int w, int n, int lasts) {
        fine(kind, w, n, lasts);
        return lawfulAt(kind, w, world.hour + n, lasts, 0);
    }

    // ---- deeds of state

    private void deedOfState() {
        undone.add(world);
        if (undone.size() > 10) {
            undone.remove(0);
        }
        world = world.copied();
    }

    private void lay(List<Laid> laid, int w, int degrees, int hours) {
        laid.set(w, degrees == 0 ? NOTHING : new Laid(degrees, world.hour, hours));
    }

    int fire(int w, int degrees, int hours) {
        needWard(w);
        need(degrees >= 0 && degrees <= 60);
        need(hours >= 1 && hours <= 99);
        deedOfState();
        lay(world.fires, w, degrees, hours);
        return degreeIn(w, world.hour);
    }

    int ice(int w, int degrees, int hours) {
        needWard(w);
        need(degrees >= 0 && degrees <= 60 && hours >= 1 && hours <= 99);
        deedOfState();
        lay(world.ices, w, degrees, hours);
        return degreeIn(w, world.hour);
    }

    int amend(int a, int from, int to) {
        needAct(a);
        need(from >= 0 && from <= 99 && to >= from && to <= 99);
        deedOfState();
        world.acts.get(a).from = from;
        world.acts.get(a).to = to;
        int many = 0;
        for (int w = 0; w < wards(); w++) {
            many += codeAt(w, 0).contains(a) ? 1 : 0;
        }
        return many;
    }

    private int left() {
        int many = 0;
        for (Act a : world.acts) {
            many += a.repealed ? 0 : 1;
        }
        return many;
    }

    int repeal(int a) {
        needAct(a);
        if (world.acts.get(a).repealed) {
            throw new IllegalStateException();
        }
        deedOfState();
        world.acts.get(a).repealed = true;
        return left();
    }

    int hours(int n) {
        need(n >= 1 && n <= 99);
        deedOfState();
        world.hour += n;
        return world.hour;
    }

    private int deed(int kind, int w, int lasts) {
        int f = fineAt(kind, w, world.hour, lasts);
        world.paid += f;
        world.hour += lasts;
        return f;
    }

    int done(int kind, int w, int lasts) {
        needWard(w);
        needKind(kind);
        needLasts(lasts);
        deedOfState();
        return deed(kind, w, lasts);
    }

    int undo(int n) {
        need(n >= 1 && n <= 10 && n <= undone.size());
        for (int i = 0; i < n; i++) {
            world = undone.remove(undone.size() - 1);
        }
        return undone.size();
    }

    private int why(long v) {
        if (v == NONE) {
            return 0;
        }
        if (v >= 0 && v <= 9999) {
            return v / 100 % 10 < wards() && v % 100 >= 1 && v % 100 <= 24 ? 0 : 1;
        }
        for (int w = 0; w < wards(); w++) {
            for (int d = 0; d <= 60; d++) {
                if (v == 20000 + 100 * w + d || v == 30000 + 100 * w + d) {
                    return 0;
                }
            }
        }
        for (int a = 0; a < world.acts.size(); a++) {
            if (v == 40000 + a) {
                return world.acts.get(a).repealed ? 2 : 0;
            }
        }
        return 1;
    }

    private void carry(long v) {
        int x = (int) v;
        if (x == NONE) {
            world.hour++;
        } else if (x < 10000) {
            deed(x / 1000, x / 100 % 10, x % 100);
        } else if (x < 40000) {
            lay(x < 30000 ? world.fires : world.ices, x / 100 % 100, x % 100, 6);
        } else {
            world.acts.get(x - 40000).repealed = true;
        }
    }

    int judge(int tray, int what) {
        needTray(tray);
        needPlaced(tray);
        need(what >= 0 && what <= 3);
        World kept = world;
        world = world.copied();
        int[] answers = {NONE, 0, 0, 0};
        for (int i = 0; i < trays[tray].length; i++) {
            int why = why(trays[tray][i]);
            if (why != 0) {
                answers[0] = i;
                answers[1] = why;
                break;
            }
            carry(trays[tray][i]);
        }
        answers[2] = world.hour;
        answers[3] = world.paid;
        world = kept;
        return answers[what];
    }

    int perform(int tray) {
        needTray(tray);
        needPlaced(tray);
        int many = 0;
        for (long v : trays[tray]) {
            if (why(v) != 0) {
                break;
            }
            deedOfState();
            carry(v);
            many++;
        }
        return many;
    }

    private int x;

    private int draw() {
        x = 1103515245 * x + 12345;
        return x >>> 16;
    }

    int season(int seed, int times) {
        need(times >= 1 && times <= 30);
        x = seed;
        int many = 0;
        for (int i = 0; i < times; i++) {
            int what = draw() % 5;
            if (what > 1 && wards() == 0) {
                continue;
            }
            deedOfState();
            many++;
            if (what < 2) {
                world.hour++;
            } else if (what < 4) {
                int w = draw() % wards();
                int degrees = draw() % 61;
                lay(what == 2 ? world.fires : world.ices, w, degrees, 6);
            } else {
                int kind = draw() % 10;
                int w = draw() % wards();
                int lasts = 1 + draw() % 24;
                deed(kind, w, lasts);
            }
        }
        return many;
    }

    // ---- hours to come

    private int soonestFrom(int kind, int w, int lasts, int ahead) {
        for (int n = 0; n <= 200; n++) {
            if (lawfulAt(kind, w, world.hour + ahead + n, lasts, 0)) {
                return n;
            }
        }
        return NONE;
    }

    int soonest(int kind, int w, int lasts) {
        fine(kind, w, 0, lasts);
        return soonestFrom(kind, w, lasts, 0);
    }

    int where(int kind, int lasts) {
        needKind(kind);
        needLasts(lasts);
        for (int n = 0; n <= 200; n++) {
            for (int w = 0; w < wards(); w++) {
                if (lawfulAt(kind, w, world.hour + n, lasts, 0)) {
                    return w;
                }
            }
        }
        return NONE;
    }

    int cheapest(int kind, int w, int lasts) {
        fine(kind, w, 0, lasts);
        int best = 0;
        for (int n = 1; n <= 200; n++) {
            if (fine(kind, w, n, lasts) < fine(kind, w, best, lasts)) {
                best = n;
            }
        }
        return best;
    }

    int freeHours(int kind, int w, int n) {
        needWard(w);
        needKind(kind);
        need(n >= 1 && n <= 200);
        int many = 0;
        for (int k = 0; k < n; k++) {
            many += bar(kind, w, world.hour + k, 0) == NONE ? 1 : 0;
        }
        return many;
    }

    int spell(int kind, int w, int n, int what) {
        freeHours(kind, w, n);
        need(what == 0 || what == 1);
        boolean[] free = new boolean[n];
        for (int k = 0; k < n; k++) {
            free[k] = bar(kind, w, world.hour + k, 0) == NONE;
        }
        for (int length = n; length > 0; length--) {
            for (int b = 0; b + length <= n; b++) {
                boolean all = true;
                for (int k = b; k < b + length; k++) {
                    all &= free[k];
                }
                if (all) {
                    return what == 0 ? length : b;
                }
            }
        }
        return what == 0 ? 0 : NONE;
    }

    int lawless(int w) {
        needWard(w);
        for (int n = 0; n <= 200; n++) {
            if (codeAt(w, n).isEmpty()) {
                return n;
            }
        }
        return NONE;
    }

    int alwaysBarred() {
        TreeSet<Integer> kinds = new TreeSet<>();
        for (int kind = 0; kind < 10; kind++) {
            for (int w = 0; w < wards(); w++) {
                if (freeHours(kind, w, 24) == 0) {
                    kinds.add(kind);
                }
            }
        }
        return bits(kinds);
    }

    int strictest() {
        int best = 0;
        int most = 0;
        for (int n = 0; n <= 200; n++) {
            int many = 0;
            for (int w = 0; w < wards(); w++) {
                many += codeAt(w, n).size();
            }
            if (many > most) {
                most = many;
                best = n;
            }
        }
        return best;
    }

    // ---- fire, acts

    int heat(int kind, int w, int n, int lasts) {
        fine(kind, w, n, lasts);
        int best = 99;
        for (int d = -60; d <= 60; d++) {
            boolean nearer = best == 99 || Math.abs(d) < Math.abs(best) || d == -best;
            if (nearer && lawfulAt(kind, w, world.hour + n, lasts, d)) {
                best = d;
            }
        }
        return best;
    }

    int leastHeat(int kind, int w, int lasts) {
        fine(kind, w, 0, lasts);
        int best = NONE;
        int least = 99;
        for (int n = 0; n <= 200 && least > 0; n++) {
            int d = heat(kind, w, n, lasts);
            if (d != 99 && Math.abs(d) < least) {
                least = Math.abs(d);
                best = n;
            }
        }
        return best;
    }

    int cover(int kind, int w, int what) {
        needWard(w);
        needKind(kind);
        need(what == 0 || what == 1);
        World kept = world;
        int best = 0;
        for (int many = 1; many <= 8 && best == 0; many++) {
            for (int set = 1; set < 1 << kept.acts.size() && best == 0; set++) {
                if (Integer.bitCount(set) == many && coveredBy(kept, kind, w, set)) {
                    best = set;
                }
            }
        }
        world = kept;
        return best == 0 ? NONE : what == 0 ? Integer.bitCount(best) : best;
    }

    private boolean coveredBy(World from, int kind, int w, int set) {
        world = from.copied();
        for (int a = 0; a < world.acts.size(); a++) {
            boolean of = world.acts.get(a).kind == kind;
            if ((set >> a & 1) == 1 && !of) {
                return false;
            }
            if ((set >> a & 1) == 0 && of) {
                world.acts.get(a).repealed = true;
            }
        }
        return freeHours(kind, w, 24) == 0;
    }

    int widen(int a, int w) {
        needAct(a);
        needWard(w);
        for (int all = 0; ; all++) {
            for (int less = 0; less <= all; less++) {
                boolean speaks = true;
                for (int n = 0; n < 24; n++) {
                    int g = degree(w, n);
                    speaks &= world.acts.get(a).from - less <= g && g <= world.acts.get(a).to + all - less;
                }
                if (speaks) {
                    return all;
                }
            }
        }
    }

    int heaviest(int w) {
        needWard(w);
        int best = NONE;
        int most = 0;
        World kept = world;
        for (int a = 0; a < kept.acts.size(); a++) {
            if (kept.acts.get(a).repealed) {
                continue;
            }
            world = kept;
            int free = freeHours(kept.acts.get(a).kind, w, 24);
            world = kept.copied();
            world.acts.get(a).repealed = true;
            int more = freeHours(kept.acts.get(a).kind, w, 24) - free;
            if (more > most) {
                most = more;
                best = a;
            }
        }
        world = kept;
        return best;
    }

    // ---- ways

    private void needWay(int kind, int from, int to) {
        needWard(from);
        needWard(to);
        needKind(kind);
    }

    private boolean step(int a, int b) {
        return a == b || world.beside.get(a).contains(b);
    }

    /** The first free way by wards that takes just so many hours; null: there is none. */
    private List<Integer> freeOf(int kind, int from, int to, int hours, int closed) {
        return goOn(kind, new ArrayList<>(List.of(from)), to, hours, closed, new TreeSet<>());
    }

    private List<Integer> goOn(int kind, List<Integer> gone, int to, int hours, int closed, TreeSet<Integer> dead) {
        int t = gone.size() - 1;
        int w = gone.get(t);
        if (w == closed || fined(kind, w, world.hour + t, 0) > 0 || dead.contains(t * 10 + w)) {
            return null;
        }
        if (t == hours) {
            return w == to ? new ArrayList<>(gone) : null;
        }
        for (int v = 0; v < wards(); v++) {
            if (step(w, v)) {
                gone.add(v);
                List<Integer> found = goOn(kind, gone, to, hours, closed, dead);
                gone.remove(gone.size() - 1);
                if (found != null) {
                    return found;
                }
            }
        }
        dead.add(t * 10 + w);
        return null;
    }

    private List<Integer> soonestFree(int kind, int from, int to, int closed) {
        for (int hours = 0; hours <= 60; hours++) {
            List<Integer> found = freeOf(kind, from, to, hours, closed);
            if (found != null) {
                return found;
            }
        }
        return null;
    }

    int freeWay(int kind, int from, int to) {
        needWay(kind, from, to);
        List<Integer> found = soonestFree(kind, from, to, NONE);
        return found == null ? NONE : found.size() - 1;
    }

    int freeAt(int kind, int from, int to, int k) {
        needWay(kind, from, to);
        need(k >= 0);
        List<Integer> found = soonestFree(kind, from, to, NONE);
        return found == null || k >= found.size() ? NONE : found.get(k);
    }

    int wayFine(int kind, int from, int to, int n) {
        needWay(kind, from, to);
        need(n >= 0 && n <= 60);
        return leastFrom(kind, from, to, 0, n, new HashMap<>());
    }

    private int leastFrom(int kind, int w, int to, int t, int n, Map<Integer, Integer> known) {
        if (known.containsKey(t * 10 + w)) {
            return known.get(t * 10 + w);
        }
        int least = t == n && w == to ? 0 : NONE;
        for (int v = 0; t < n && v < wards(); v++) {
            int rest = step(w, v) ? leastFrom(kind, v, to, t + 1, n, known) : NONE;
            if (rest != NONE && (least == NONE || rest < least)) {
                least = rest;
            }
        }
        int all = least == NONE ? NONE : least + fined(kind, w, world.hour + t, 0);
        known.put(t * 10 + w, all);
        return all;
    }

    long freeWays(int kind, int from, int to, int n) {
        needWay(kind, from, to);
        need(n >= 0 && n <= 20);
        return manyFrom(kind, from, to, 0, n, new HashMap<>());
    }

    private long manyFrom(int kind, int w, int to, int t, int n, Map<Integer, Long> known) {
        if (fined(kind, w, world.hour + t, 0) > 0) {
            return 0;
        }
        if (t == n) {
            return w == to ? 1 : 0;
        }
        Long ready = known.get(t * 10 + w);
        if (ready != null) {
            return ready;
        }
        long sum = 0;
        for (int v = 0; v < wards(); v++) {
            sum += step(w, v) ? manyFrom(kind, v, to, t + 1, n, known) : 0;
        }
        known.put(t * 10 + w, sum);
        return sum;
    }

    int guard(int kind, int from, int to) {
        needWay(kind, from, to);
        need(from != to);
        List<Integer> found = soonestFree(kind, from, to, NONE);
        if (found == null) {
            return NONE;
        }
        int latest = found.size();
        int best = NONE;
        for (int w = 0; w < wards(); w++) {
            if (w == from || w == to) {
                continue;
            }
            List<Integer> then = soonestFree(kind, from, to, w);
            int size = then == null ? 1000 : then.size();
            if (size > latest) {
                latest = size;
                best = w;
            }
        }
        return best;
    }

    // ---- errands

    private void needErrands(int tray) {
        needTray(tray);
        needPlaced(tray);
        need(trays[tray].length >= 1 && trays[tray].length <= 4);
        for (long v : trays[tray]) {
            need(v >= 0 && v <= 9999 && why(v) == 0);
        }
    }

    private int endOf(int tray, List<Integer> order) {
        int end = 0;
        for (int i : order) {
            int v = (int) trays[tray][i];
            int n = soonestFrom(v / 1000, v / 100 % 10, v % 100, end);
            if (n == NONE) {
                return NONE;
            }
            end += n + v % 100;
        }
        return end;
    }

    int errands(int tray) {
        needErrands(tray);
        List<Integer> order = new ArrayList<>();
        for (int i = 0; i < trays[tray].length; i++) {
            order.add(i);
        }
        return endOf(tray, order);
    }

    private static void orders(List<Integer> gone, int many, List<List<Integer>> all) {
        if (gone.size() == many) {
            all.add(gone);
        }
        for (int i = 0; i < many; i++) {
            if (!gone.contains(i)) {
                List<Integer> next = new ArrayList<>(gone);
                next.add(i);
                orders(next, many, all);
            }
        }
    }

    int bestOrder(int tray, int what) {
        needErrands(tray);
        need(what == 0 || what >= 10 && what <= 13);
        List<List<Integer>> all = new ArrayList<>();
        orders(List.of(), trays[tray].length, all);
        List<Integer> best = null;
        int least = NONE;
        for (List<Integer> order : all) {
            int end = endOf(tray, order);
            if (end != NONE && (best == null || end < least)) {
                best = order;
                least = end;
            }
        }
        if (best == null || what == 0) {
            return least;
        }
        return what - 10 < best.size() ? best.get(what - 10) : NONE;
    }

    // ---- thermometers

    private List<Integer> breaths(int tray, int kind, int w) {
        needTray(tray);
        needWard(w);
        needPlaced(tray);
        needKind(kind);
        long[] row = trays[tray];
        need(row.length >= 1 && row.length <= 24);
        for (int i = 0; i < row.length; i++) {
            need(row[i] == NONE || world.hour - (i + 1) >= 0 && row[i] >= 0 && row[i] <= 792);
        }
        List<Integer> all = new ArrayList<>();
        for (int d = -20; d <= 20; d++) {
            boolean so = true;
            for (int i = 0; i < row.length; i++) {
                so &= row[i] == NONE || fined(kind, w, world.hour - (i + 1), d) == row[i];
            }
            if (so) {
                all.add(d);
            }
        }
        return all;
    }

    int seen(int tray, int kind, int w) {
        return breaths(tray, kind, w).size();
    }

    int breath(int tray, int kind, int w, int k) {
        List<Integer> all = breaths(tray, kind, w);
        need(k >= 0);
        return k < all.size() ? all.get(k) : 99;
    }

    int look(int tray, int kind, int w) {
        List<Integer> all = breaths(tray, kind, w);
        int best = NONE;
        int least = 1000;
        for (int n = 0; n <= 24 && !all.isEmpty(); n++) {
            Map<Integer, Integer> many = new HashMap<>();
            int most = 0;
            for (int d : all) {
                most = Math.max(most, many.merge(fined(kind, w, world.hour + n, d), 1, Integer::sum));
            }
            if (most < least) {
                least = most;
                best = n;
            }
        }
        return best;
    }

    // ---- trays, images

    void tray(int tray, int sort, int many) {
        needTray(tray);
        need(sort >= 0 && sort <= 3);
        need(many >= 0 && many <= 30);
        trays[tray] = new long[many];
        sorts[tray] = sort;
    }

    long write(int tray, int place, long v) {
        needTray(tray);
        needPlaced(tray);
        if (place < 0 || place >= trays[tray].length) {
            throw new IndexOutOfBoundsException();
        }
        int cut = 64 - (8 << sorts[tray]);
        trays[tray][place] = v << cut >> cut;
        return trays[tray][place];
    }

    int copy(int tray, int w) {
        needTray(tray);
        needWard(w);
        needPlaced(tray);
        for (int i = 0; i < trays[tray].length; i++) {
            trays[tray][i] = degreeIn(w, world.hour + i);
        }
        return trays[tray].length;
    }

    void image(int i) {
        if (i < 0 || i > 2) {
            throw new NoSuchElementException();
        }
        images[i] = world.copied();
        imagesUndone.set(i, new ArrayList<>(undone));
    }

    void restore(int i) {
        if (i < 0 || i > 2) {
            throw new NoSuchElementException();
        }
        if (images[i] == null) {
            throw new IllegalStateException();
        }
        world = images[i].copied();
        undone = new ArrayList<>(imagesUndone.get(i));
    }

    int count(int what) {
        int[] all = {world.lines, wards(), world.acts.size(), left(), world.hour, world.paid, world.whole ? 1 : 0,
            undone.size(), tape.length()};
        return what >= 0 && what < all.length ? all[what] : NONE;
    }
}
