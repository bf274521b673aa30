import java.util.Arrays;
import java.util.NoSuchElementException;

/** A land whose laws lapse by the thermometer; the document's promises say what each call answers. */
public final class DegreeLaws {
    public static final int NONE = -1;

    private static final int MOST_BYTES = 900;
    private static final int BYTES_FED = 20;
    private static final int MOST_WARDS = 5;
    private static final int MOST_ACTS = 8;
    private static final int KINDS = 10;
    private static final int TOP_DEGREE = 99;
    private static final int TOP_FINE = 99;
    private static final int TOP_SUM_OF_FINES = MOST_ACTS * TOP_FINE;
    private static final int DAY = 24;
    private static final int MOST_DAYS = 1000;
    private static final int TOP_AHEAD = 999;
    private static final int TOP_LAID_ON = 60;
    private static final int TOP_HOURS = 99;
    private static final int TOLD_HOURS = 6;
    private static final int SOUGHT = 200;
    private static final int TOP_HEAT = 60;
    private static final int TOP_BREATH = 20;
    private static final int NO_SUCH_DEGREES = 99;
    private static final int WAY_HOURS = 60;
    private static final int COUNTED_WAY_HOURS = 20;
    private static final int MOST_UNDONE = 10;
    private static final int MOST_TIMES = 30;
    private static final int MOST_ERRANDS = 4;
    private static final int TRAYS = 4;
    private static final int MOST_NUMBERS = 30;
    private static final int MISSING = -1;
    private static final int IMAGES = 3;

    // The row of all that deeds of state change: kept as one row, so that undoing is copying it back.
    private static final int HOUR = 0;
    private static final int PAID = 1;
    private static final int REPEALED = 2;
    private static final int FIRE = 3;
    private static final int ICE = FIRE + 3 * MOST_WARDS;
    private static final int SINCE = MOST_WARDS;
    private static final int UNTIL = 2 * MOST_WARDS;
    private static final int FIRST = ICE + 3 * MOST_WARDS;
    private static final int SECOND = FIRST + MOST_ACTS;
    private static final int ROW = SECOND + MOST_ACTS;

    private final Reader tape = new Reader();
    private final Sky sky = new Sky();
    private final Past past = new Past();
    private final int[] spare = new int[ROW];
    private final Tray[] trays = new Tray[TRAYS];
    private final Image[] images = new Image[IMAGES];
    private int drawn = 0;
    // Made when first used: most objects never need all of these rows.
    private Outlook outlook = null;
    private Ways ways = null;
    private Agenda agenda = null;
    private Thermometer thermometer = null;

    public DegreeLaws() {
        for (int i = 0; i < trays.length; i++) {
            trays[i] = new Tray();
        }
    }

    // ---- the land

    public int feed(int a, int b, int c, int d, int e) {
        if (tape.length + BYTES_FED > MOST_BYTES) {
            return NONE;
        }
        tape.append(a);
        tape.append(b);
        tape.append(c);
        tape.append(d);
        tape.append(e);
        return tape.length;
    }

    public int land(int n) throws IllegalArgumentException {
        needWithin(n, 0, tape.length);
        Land told = tape.readLand(n);
        tape.length = 0;
        if (tape.fault != 0) {
            return -10 - tape.fault;
        }
        sky.beginWith(told);
        past.many = 0;
        return told.lines;
    }

    public int fault(int what) {
        if (what == 0) {
            return tape.fault;
        }
        return what == 1 ? tape.place : NONE;
    }

    public int ward(int w, int what) throws NoSuchElementException, IllegalArgumentException {
        needWard(w);
        needWithin(what, 0, 5);
        int hour = sky.now[HOUR];
        switch (what) {
            case 0:
                return sky.land.base[w];
            case 1:
                return sky.land.beside[w];
            case 2:
                return sky.laidOn(FIRE, w, hour);
            case 3:
                return sky.laidOn(ICE, w, hour);
            case 4:
                return Math.max(0, sky.now[FIRE + UNTIL + w] - hour);
            default:
                return Math.max(0, sky.now[ICE + UNTIL + w] - hour);
        }
    }

    public int act(int a, int what) throws NoSuchElementException, IllegalArgumentException {
        needAct(a);
        needWithin(what, 0, 4);
        switch (what) {
            case 0:
                return sky.land.kindOf[a];
            case 1:
                return sky.now[FIRST + a];
            case 2:
                return sky.now[SECOND + a];
            case 3:
                return sky.land.fineOf[a];
            default:
                return sky.isRepealed(a) ? 1 : 0;
        }
    }

    public int degree(int w, int n) throws NoSuchElementException, IllegalArgumentException {
        needWard(w);
        needWithin(n, 0, TOP_AHEAD);
        return sky.degreeIn(w, sky.now[HOUR] + n);
    }

    public int code(int w, int n) throws NoSuchElementException, IllegalArgumentException {
        needWard(w);
        needWithin(n, 0, TOP_AHEAD);
        return sky.codeIn(w, sky.now[HOUR] + n);
    }

    public int fine(int kind, int w, int n, int lasts) throws NoSuchElementException, IllegalArgumentException {
        needDeed(kind, w, lasts);
        needWithin(n, 0, TOP_AHEAD);
        return sky.fineOfDeed(kind, w, sky.now[HOUR] + n, lasts);
    }

    public boolean lawful(int kind, int w, int n, int lasts) throws NoSuchElementException, IllegalArgumentException {
        needDeed(kind, w, lasts);
        needWithin(n, 0, TOP_AHEAD);
        return ahead().isLawfulIn(kind, w, n, lasts);
    }

    // ---- deeds of state

    public int fire(int w, int degrees, int hours) throws NoSuchElementException, IllegalArgumentException {
        return layOn(FIRE, w, degrees, hours);
    }

    public int ice(int w, int degrees, int hours) throws NoSuchElementException, IllegalArgumentException {
        return layOn(ICE, w, degrees, hours);
    }

    private int layOn(int what, int w, int degrees, int hours) {
        needWard(w);
        needWithin(degrees, 0, TOP_LAID_ON);
        needWithin(hours, 1, TOP_HOURS);
        past.keep(sky.now);
        sky.layOn(what, w, degrees, hours);
        return sky.degreeIn(w, sky.now[HOUR]);
    }

    public int amend(int a, int from, int to) throws NoSuchElementException, IllegalArgumentException {
        needAct(a);
        needWithin(from, 0, TOP_DEGREE);
        needWithin(to, from, TOP_DEGREE);
        past.keep(sky.now);
        sky.now[FIRST + a] = from;
        sky.now[SECOND + a] = to;
        sky.forgetPrevailing();
        int many = 0;
        for (int w = 0; w < sky.land.wards; w++) {
            many += sky.codeIn(w, sky.now[HOUR]) >> a & 1;
        }
        return many;
    }

    public int repeal(int a) throws NoSuchElementException, IllegalStateException {
        needAct(a);
        if (sky.isRepealed(a)) {
            throw new IllegalStateException("the act is repealed already");
        }
        past.keep(sky.now);
        sky.now[REPEALED] |= 1 << a;
        return Integer.bitCount(sky.liveActs());
    }

    public int hours(int n) throws IllegalArgumentException {
        needWithin(n, 1, TOP_HOURS);
        past.keep(sky.now);
        sky.now[HOUR] += n;
        return sky.now[HOUR];
    }

    public int done(int kind, int w, int lasts) throws NoSuchElementException, IllegalArgumentException {
        needDeed(kind, w, lasts);
        past.keep(sky.now);
        return sky.doDeed(kind, w, lasts);
    }

    public int undo(int n) throws IllegalArgumentException {
        needWithin(n, 1, past.many);
        past.goBack(n, sky.now);
        sky.forgetPrevailing();
        return past.many;
    }

    public int judge(int tray, int what) throws NoSuchElementException, IllegalStateException, IllegalArgumentException {
        Tray told = trayAt(tray);
        needPlaced(told);
        needWithin(what, 0, 3);
        System.arraycopy(sky.now, 0, spare, 0, ROW);
        int place = 0;
        while (place < told.many && sky.whyNot(told.numbers[place]) == 0) {
            sky.carryOut(told.numbers[place]);
            place++;
        }
        boolean all = place >= told.many;
        int why = all ? 0 : sky.whyNot(told.numbers[place]);
        int hour = sky.now[HOUR];
        int paid = sky.now[PAID];
        System.arraycopy(spare, 0, sky.now, 0, ROW);
        switch (what) {
            case 0:
                return all ? NONE : place;
            case 1:
                return why;
            case 2:
                return hour;
            default:
                return paid;
        }
    }

    public int perform(int tray) throws NoSuchElementException, IllegalStateException {
        Tray told = trayAt(tray);
        needPlaced(told);
        int place = 0;
        while (place < told.many && sky.whyNot(told.numbers[place]) == 0) {
            past.keep(sky.now);
            sky.carryOut(told.numbers[place]);
            place++;
        }
        return place;
    }

    public int season(int seed, int times) throws IllegalArgumentException {
        needWithin(times, 1, MOST_TIMES);
        drawn = seed;
        int many = 0;
        for (int i = 0; i < times; i++) {
            int what = drawBelow(5);
            // Without wards only hours can be, and for all else nothing more is drawn.
            if (what < 2 || sky.land.wards > 0) {
                past.keep(sky.now);
                carryOutDrawn(what);
                many++;
            }
        }
        return many;
    }

    private void carryOutDrawn(int what) {
        if (what < 2) {
            sky.now[HOUR]++;
            return;
        }
        if (what == 4) {
            int kind = drawBelow(KINDS);
            int w = drawBelow(sky.land.wards);
            sky.doDeed(kind, w, 1 + drawBelow(DAY));
            return;
        }
        int w = drawBelow(sky.land.wards);
        sky.layOn(what == 2 ? FIRE : ICE, w, drawBelow(TOP_LAID_ON + 1), TOLD_HOURS);
    }

    private int drawBelow(int bound) {
        drawn = 1103515245 * drawn + 12345;
        return bound < 1 ? 0 : (drawn >>> 16) % bound;
    }

    // ---- hours to come

    private Outlook ahead() {
        if (outlook == null) {
            outlook = new Outlook(sky);
        }
        return outlook;
    }

    public int soonest(int kind, int w, int lasts) throws NoSuchElementException, IllegalArgumentException {
        needDeed(kind, w, lasts);
        return ahead().soonestIn(kind, w, lasts);
    }

    public int where(int kind, int lasts) throws IllegalArgumentException {
        needKind(kind);
        needWithin(lasts, 1, DAY);
        int best = NONE;
        int least = SOUGHT + 1;
        for (int w = 0; w < sky.land.wards; w++) {
            int n = ahead().soonestIn(kind, w, lasts);
            if (n != NONE && n < least) {
                least = n;
                best = w;
            }
        }
        return best;
    }

    public int cheapest(int kind, int w, int lasts) throws NoSuchElementException, IllegalArgumentException {
        needDeed(kind, w, lasts);
        return ahead().cheapestIn(kind, w, lasts);
    }

    public int freeHours(int kind, int w, int n) throws NoSuchElementException, IllegalArgumentException {
        needWard(w);
        needKind(kind);
        needWithin(n, 1, SOUGHT);
        return ahead().manyFree(kind, w, n);
    }

    public int spell(int kind, int w, int n, int what) throws NoSuchElementException, IllegalArgumentException {
        needWard(w);
        needKind(kind);
        needWithin(n, 1, SOUGHT);
        needWithin(what, 0, 1);
        return ahead().longestFree(kind, w, n, what == 0);
    }

    public int lawless(int w) throws NoSuchElementException {
        needWard(w);
        for (int n = 0; n <= SOUGHT; n++) {
            if (sky.codeIn(w, sky.now[HOUR] + n) == 0) {
                return n;
            }
        }
        return NONE;
    }

    public int alwaysBarred() {
        int kinds = 0;
        for (int w = 0; w < sky.land.wards; w++) {
            int always = (1 << KINDS) - 1;
            for (int n = 0; n < DAY && always != 0; n++) {
                always &= sky.land.kindsOf(sky.codeIn(w, sky.now[HOUR] + n));
            }
            kinds |= always;
        }
        return kinds;
    }

    public int strictest() {
        int best = 0;
        int most = -1;
        for (int n = 0; n <= SOUGHT; n++) {
            int many = 0;
            for (int w = 0; w < sky.land.wards; w++) {
                many += Integer.bitCount(sky.codeIn(w, sky.now[HOUR] + n));
            }
            if (many > most) {
                most = many;
                best = n;
            }
        }
        return best;
    }

    // ---- fire, acts

    public int heat(int kind, int w, int n, int lasts) throws NoSuchElementException, IllegalArgumentException {
        needDeed(kind, w, lasts);
        needWithin(n, 0, TOP_AHEAD);
        return ahead().heatIn(kind, w, n, lasts);
    }

    public int leastHeat(int kind, int w, int lasts) throws NoSuchElementException, IllegalArgumentException {
        needDeed(kind, w, lasts);
        return ahead().leastHeated(kind, w, lasts);
    }

    public int cover(int kind, int w, int what) throws NoSuchElementException, IllegalArgumentException {
        needWard(w);
        needKind(kind);
        needWithin(what, 0, 1);
        int acts = ahead().coverIn(kind, w);
        if (acts == 0) {
            return NONE;
        }
        return what == 0 ? Integer.bitCount(acts) : acts;
    }

    public int widen(int a, int w) throws NoSuchElementException {
        needAct(a);
        needWard(w);
        int less = 0;
        int more = 0;
        for (int n = 0; n < DAY; n++) {
            int degree = sky.degreeIn(w, sky.now[HOUR] + n);
            less = Math.max(less, sky.now[FIRST + a] - degree);
            more = Math.max(more, degree - sky.now[SECOND + a]);
        }
        return less + more;
    }

    public int heaviest(int w) throws NoSuchElementException {
        needWard(w);
        return ahead().heaviestIn(w);
    }

    // ---- ways

    public int freeWay(int kind, int from, int to) throws NoSuchElementException, IllegalArgumentException {
        needWay(kind, from, to);
        return waysOf(kind, WAY_HOURS).soonestFree(from, to, 0);
    }

    public int freeAt(int kind, int from, int to, int k) throws NoSuchElementException, IllegalArgumentException {
        needWay(kind, from, to);
        needNotBelowZero(k);
        return waysOf(kind, WAY_HOURS).wardOnFirst(from, to, k);
    }

    public int wayFine(int kind, int from, int to, int n) throws NoSuchElementException, IllegalArgumentException {
        needWay(kind, from, to);
        needWithin(n, 0, WAY_HOURS);
        return waysOf(kind, n).leastFined(from, to, n);
    }

    public long freeWays(int kind, int from, int to, int n) throws NoSuchElementException, IllegalArgumentException {
        needWay(kind, from, to);
        needWithin(n, 0, COUNTED_WAY_HOURS);
        return waysOf(kind, n).manyFree(from, to, n);
    }

    public int guard(int kind, int from, int to) throws NoSuchElementException, IllegalArgumentException {
        needWay(kind, from, to);
        if (from == to) {
            throw new IllegalArgumentException("both wards are one");
        }
        return waysOf(kind, WAY_HOURS).bestGuard(from, to);
    }

    private Ways waysOf(int kind, int hours) {
        if (ways == null) {
            ways = new Ways(sky);
        }
        ways.layOut(kind, hours);
        return ways;
    }

    // ---- errands

    public int errands(int tray) throws NoSuchElementException, IllegalStateException, IllegalArgumentException {
        Tray told = trayAt(tray);
        needPlaced(told);
        needErrands(told);
        return agendaOf(told).endInOrder();
    }

    public int bestOrder(int tray, int what) throws NoSuchElementException, IllegalStateException, IllegalArgumentException {
        Tray told = trayAt(tray);
        needPlaced(told);
        needErrands(told);
        if (what != 0) {
            needWithin(what, 10, 13);
        }
        Agenda errands = agendaOf(told);
        errands.tryOrders(0, 0, 0);
        return what == 0 ? errands.bestEnd : errands.placeInBest(what - 10);
    }

    private Agenda agendaOf(Tray told) {
        if (agenda == null) {
            agenda = new Agenda(sky);
        }
        agenda.take(told);
        return agenda;
    }

    // ---- thermometers

    public int seen(int tray, int kind, int w) throws NoSuchElementException, IllegalStateException, IllegalArgumentException {
        Tray fines = needSeen(tray, kind, w);
        Thermometer breathedOn = glass();
        breathedOn.find(fines, kind, w);
        return breathedOn.many;
    }

    public int breath(int tray, int kind, int w, int k) throws NoSuchElementException, IllegalStateException, IllegalArgumentException {
        Tray fines = needSeen(tray, kind, w);
        needNotBelowZero(k);
        Thermometer breathedOn = glass();
        breathedOn.find(fines, kind, w);
        return k < breathedOn.many ? breathedOn.breaths[k] : NO_SUCH_DEGREES;
    }

    public int look(int tray, int kind, int w) throws NoSuchElementException, IllegalStateException, IllegalArgumentException {
        Tray fines = needSeen(tray, kind, w);
        Thermometer breathedOn = glass();
        breathedOn.find(fines, kind, w);
        return breathedOn.tellingHour(kind, w);
    }

    private Thermometer glass() {
        if (thermometer == null) {
            thermometer = new Thermometer(sky);
        }
        return thermometer;
    }

    // ---- trays, images

    public void tray(int tray, int sort, int many) throws NoSuchElementException, IllegalArgumentException {
        Tray row = trayAt(tray);
        needWithin(sort, 0, 3);
        needWithin(many, 0, MOST_NUMBERS);
        row.sort = sort;
        row.many = many;
        Arrays.fill(row.numbers, 0L);
    }

    public long write(int tray, int place, long v) throws NoSuchElementException, IllegalStateException, IndexOutOfBoundsException {
        Tray row = trayAt(tray);
        needPlaced(row);
        if (place < 0 || place >= row.many) {
            throw new IndexOutOfBoundsException("the tray has no such place");
        }
        row.numbers[place] = row.cut(v);
        return row.numbers[place];
    }

    public int copy(int tray, int w) throws NoSuchElementException, IllegalStateException {
        Tray row = trayAt(tray);
        needWard(w);
        needPlaced(row);
        for (int i = 0; i < row.many; i++) {
            row.numbers[i] = sky.degreeIn(w, sky.now[HOUR] + i);
        }
        return row.many;
    }

    public void image(int i) throws NoSuchElementException {
        needImage(i);
        if (images[i] == null) {
            images[i] = new Image(sky.land);
        }
        Image made = images[i];
        made.land = sky.land;
        System.arraycopy(sky.now, 0, made.now, 0, ROW);
        made.past.become(past);
    }

    public void restore(int i) throws NoSuchElementException, IllegalStateException {
        needImage(i);
        Image made = images[i];
        if (made == null) {
            throw new IllegalStateException("no such image was made");
        }
        sky.land = made.land;
        System.arraycopy(made.now, 0, sky.now, 0, ROW);
        past.become(made.past);
        sky.forgetPrevailing();
    }

    public int count(int what) {
        switch (what) {
            case 0:
                return sky.land.lines;
            case 1:
                return sky.land.wards;
            case 2:
                return sky.land.acts;
            case 3:
                return Integer.bitCount(sky.liveActs());
            case 4:
                return sky.now[HOUR];
            case 5:
                return sky.now[PAID];
            case 6:
                return sky.land.whole ? 1 : 0;
            case 7:
                return past.many;
            case 8:
                return tape.length;
            default:
                return NONE;
        }
    }

    // ---- what calls need; each throws what the document tells

    private void needWard(int w) {
        if (w < 0 || w >= sky.land.wards) {
            throw new NoSuchElementException("no such ward");
        }
    }

    private void needAct(int a) {
        if (a < 0 || a >= sky.land.acts) {
            throw new NoSuchElementException("no such act");
        }
    }

    private static void needImage(int i) {
        if (i < 0 || i >= IMAGES) {
            throw new NoSuchElementException("no such image");
        }
    }

    private Tray trayAt(int tray) {
        if (tray < 0 || tray >= TRAYS) {
            throw new NoSuchElementException("no such tray");
        }
        return trays[tray];
    }

    private static void needPlaced(Tray row) {
        if (row.many == MISSING) {
            throw new IllegalStateException("the tray is missing");
        }
    }

    private static void needWithin(int v, int least, int most) {
        if (v < least || v > most) {
            throw new IllegalArgumentException("a number is out of its bounds");
        }
    }

    private static void needNotBelowZero(int v) {
        if (v < 0) {
            throw new IllegalArgumentException("a number is below 0");
        }
    }

    private static void needKind(int kind) {
        needWithin(kind, 0, KINDS - 1);
    }

    private void needDeed(int kind, int w, int lasts) {
        needWard(w);
        needKind(kind);
        needWithin(lasts, 1, DAY);
    }

    private void needWay(int kind, int from, int to) {
        needWard(from);
        needWard(to);
        needKind(kind);
    }

    private void needErrands(Tray told) {
        needWithin(told.many, 1, MOST_ERRANDS);
        for (int i = 0; i < told.many; i++) {
            if (!sky.isDeed(told.numbers[i])) {
                throw new IllegalArgumentException("a number is no errand");
            }
        }
    }

    private Tray needSeen(int tray, int kind, int w) {
        Tray fines = trayAt(tray);
        needWard(w);
        needPlaced(fines);
        needKind(kind);
        needWithin(fines.many, 1, DAY);
        for (int i = 0; i < fines.many; i++) {
            long v = fines.numbers[i];
            boolean was = i < sky.now[HOUR];
            if (v != NONE && (!was || v < 0 || v > TOP_SUM_OF_FINES)) {
                throw new IllegalArgumentException("a number is nothing that was seen");
            }
        }
        return fines;
    }

    /** What the text tells; never changed once it has been read, so that images may share it. */
    private static final class Land {
        int lines = 0;
        int wards = 0;
        int acts = 0;
        int firstHour = 0;
        boolean whole = false;
        final int[] base = new int[MOST_WARDS];
        final int[] beside = new int[MOST_WARDS];
        final int[] kindOf = new int[MOST_ACTS];
        final int[] fineOf = new int[MOST_ACTS];
        final int[] first = new int[MOST_ACTS];
        final int[] second = new int[MOST_ACTS];
        final int[] actsOfKind = new int[KINDS];
        // Empty: there is no such law.
        int[] degreeLaw = new int[0];
        int[] prevailsLaw = new int[0];

        int kindsOf(int code) {
            int kinds = 0;
            for (int a = 0; a < acts; a++) {
                if ((code >> a & 1) != 0) {
                    kinds |= 1 << kindOf[a];
                }
            }
            return kinds;
        }

        int finesOf(int code) {
            int sum = 0;
            for (int a = 0; a < acts; a++) {
                if ((code >> a & 1) != 0) {
                    sum += fineOf[a];
                }
            }
            return sum;
        }
    }

    /** The tape and how its text is read: the first fault stays, and all that is read behind it counts for nothing. */
    private static final class Reader {
        private static final int NUMBER = 256;
        private static final int END = 257;
        private static final int NO_TOKEN = 258;
        private static final int OTHER_WORD = 299;

        // A word's token is FIRST_WORD and its place among these.
        private static final String WORDS =
            "ward act degree prevails whole begun hour beside from to fine or and not base fire ice day kind span many ";
        private static final int FIRST_WORD = 300;
        private static final int WARD = FIRST_WORD;
        private static final int ACT = FIRST_WORD + 1;
        private static final int DEGREE = FIRST_WORD + 2;
        private static final int PREVAILS = FIRST_WORD + 3;
        private static final int WHOLE = FIRST_WORD + 4;
        private static final int BEGUN = FIRST_WORD + 5;
        private static final int HOUR_WORD = FIRST_WORD + 6;
        private static final int BESIDE = FIRST_WORD + 7;
        private static final int FROM = FIRST_WORD + 8;
        private static final int TO = FIRST_WORD + 9;
        private static final int FINE = FIRST_WORD + 10;
        private static final int OR = FIRST_WORD + 11;
        private static final int AND = FIRST_WORD + 12;
        private static final int NOT = FIRST_WORD + 13;
        private static final int BASE = FIRST_WORD + 14;
        private static final int FIRE_WORD = FIRST_WORD + 15;
        private static final int ICE_WORD = FIRST_WORD + 16;
        private static final int DAY_WORD = FIRST_WORD + 17;
        private static final int KIND = FIRST_WORD + 18;
        private static final int SPAN = FIRST_WORD + 19;
        private static final int MANY = FIRST_WORD + 20;

        private static final int NOT_A_TOKEN = 1;
        private static final int CANNOT_STAND = 2;
        private static final int OUT_OF_BOUNDS = 3;
        private static final int TOO_MANY = 4;
        private static final int DEEPEST = 6;

        private final byte[] text = new byte[MOST_BYTES];
        int length = 0;
        private int end = 0;
        private int at = 0;
        private int token = END;
        private int start = 0;
        private int number = 0;
        private Land land = new Land();
        private boolean ofPrevails = false;
        private final int[] law = new int[MOST_BYTES];
        private int lawLength = 0;
        int fault = 0;
        int place = NONE;

        void append(int four) {
            for (int shift = 24; shift >= 0 && length < text.length; shift -= 8) {
                text[length] = (byte) (four >> shift);
                length++;
            }
        }

        Land readLand(int n) {
            land = new Land();
            end = Math.min(n, text.length);
            at = 0;
            fault = 0;
            place = NONE;
            advance();
            for (int i = 0; i <= MOST_BYTES && fault == 0 && token != END; i++) {
                switch (token) {
                    case WARD:
                        readWard();
                        break;
                    case ACT:
                        readAct();
                        break;
                    case DEGREE:
                        beginLaw(false);
                        readSum(0);
                        land.degreeLaw = Arrays.copyOf(law, lawLength);
                        break;
                    case PREVAILS:
                        beginLaw(true);
                        readTruth(0);
                        land.prevailsLaw = Arrays.copyOf(law, lawLength);
                        break;
                    case WHOLE:
                    case BEGUN:
                        land.whole = token == WHOLE;
                        advance();
                        break;
                    case HOUR_WORD:
                        advance();
                        land.firstHour = takeNumber(0, TOP_AHEAD);
                        break;
                    default:
                        refuse();
                }
                take(';');
                land.lines++;
            }
            return land;
        }

        private void readWard() {
            int w = land.wards;
            if (w >= MOST_WARDS) {
                fail(TOO_MANY);
                return;
            }
            advance();
            land.base[w] = takeNumber(0, TOP_DEGREE);
            if (fault == 0 && token == BESIDE) {
                advance();
                readBeside(w);
                for (int i = 0; i < MOST_BYTES && fault == 0 && token == NUMBER; i++) {
                    readBeside(w);
                }
            }
            land.wards++;
        }

        private void readBeside(int w) {
            int other = takeNumber(0, w - 1);
            if (fault == 0) {
                land.beside[w] |= 1 << other;
                land.beside[other] |= 1 << w;
            }
        }

        private void readAct() {
            int a = land.acts;
            if (a >= MOST_ACTS) {
                fail(TOO_MANY);
                return;
            }
            advance();
            int kind = takeNumber(0, KINDS - 1);
            take(FROM);
            land.first[a] = takeNumber(0, TOP_DEGREE);
            take(TO);
            land.second[a] = takeNumber(land.first[a], TOP_DEGREE);
            take(FINE);
            land.fineOf[a] = takeNumber(0, TOP_FINE);
            if (fault == 0) {
                land.kindOf[a] = kind;
                land.actsOfKind[kind] |= 1 << a;
                land.acts++;
            }
        }

        private void beginLaw(boolean prevails) {
            ofPrevails = prevails;
            lawLength = 0;
            advance();
            take(':');
        }

        private void readTruth(int depth) {
            readBoth(depth);
            for (int i = 0; i < MOST_BYTES && fault == 0 && token == OR; i++) {
                advance();
                readBoth(depth);
                put(Machine.EITHER);
            }
        }

        private void readBoth(int depth) {
            readUnit(depth);
            for (int i = 0; i < MOST_BYTES && fault == 0 && token == AND; i++) {
                advance();
                readUnit(depth);
                put(Machine.BOTH);
            }
        }

        private void readUnit(int depth) {
            if (fault != 0) {
                return;
            }
            if (token == NOT) {
                if (goesDeeper(depth)) {
                    readUnit(depth + 1);
                    put(Machine.OPPOSITE);
                }
                return;
            }
            if (token == '[') {
                if (goesDeeper(depth)) {
                    readTruth(depth + 1);
                    take(']');
                }
                return;
            }
            readSum(depth);
            int sign = token;
            if (sign == '=' || sign == '<' || sign == '>') {
                advance();
                readSum(depth);
                put(sign == '=' ? Machine.EQUAL : sign == '<' ? Machine.LESS : Machine.MORE);
            } else {
                refuse();
            }
        }

        private void readSum(int depth) {
            readTerm(depth);
            for (int i = 0; i < MOST_BYTES && fault == 0 && (token == '+' || token == '-'); i++) {
                int sign = token;
                advance();
                readTerm(depth);
                put(sign == '+' ? Machine.PLUS : Machine.MINUS);
            }
        }

        private void readTerm(int depth) {
            readAtom(depth);
            for (int i = 0; i < MOST_BYTES && fault == 0 && token == '*'; i++) {
                advance();
                readAtom(depth);
                put(Machine.TIMES);
            }
        }

        private void readAtom(int depth) {
            if (fault != 0) {
                return;
            }
            if (token == NUMBER) {
                put(number);
                advance();
            } else if (token == '(') {
                if (goesDeeper(depth)) {
                    readSum(depth + 1);
                    take(')');
                }
            } else if (ofPrevails ? isOfPrevails() : isOfDegree()) {
                put(Machine.FIRST_SLOT + token - FIRST_WORD);
                advance();
            } else {
                refuse();
            }
        }

        private boolean goesDeeper(int depth) {
            if (depth >= DEEPEST) {
                fail(TOO_MANY);
                return false;
            }
            advance();
            return true;
        }

        private boolean isOfDegree() {
            return token == BASE || token == FIRE_WORD || token == ICE_WORD
                || token == HOUR_WORD || token == DAY_WORD || token == WARD;
        }

        private boolean isOfPrevails() {
            return token == ACT || token == KIND || token == FINE || token == SPAN
                || token == MANY || token == HOUR_WORD || token == WARD;
        }

        private void put(int step) {
            if (lawLength < law.length) {
                law[lawLength] = step;
                lawLength++;
            }
        }

        private void take(int wanted) {
            if (token == wanted) {
                advance();
            } else {
                refuse();
            }
        }

        private int takeNumber(int least, int most) {
            if (token != NUMBER) {
                refuse();
                return 0;
            }
            if (number < least || number > most) {
                fail(OUT_OF_BOUNDS);
                return 0;
            }
            int taken = number;
            advance();
            return taken;
        }

        private void refuse() {
            fail(token == NO_TOKEN ? NOT_A_TOKEN : CANNOT_STAND);
        }

        private void fail(int kind) {
            if (fault == 0) {
                fault = kind;
                place = start;
            }
        }

        private void advance() {
            while (at < end && (text[at] == 10 || text[at] == 32)) {
                at++;
            }
            start = at;
            if (at >= end) {
                token = END;
            } else if (text[at] >= 'a' && text[at] <= 'z') {
                skip('a', 'z');
                token = wordHere();
            } else if (text[at] >= '0' && text[at] <= '9') {
                skip('0', '9');
                token = at - start <= 3 ? NUMBER : NO_TOKEN;
                number = numberHere();
            } else {
                token = isSign(text[at]) ? text[at] : NO_TOKEN;
                at++;
            }
        }

        private void skip(int first, int last) {
            while (at < end && text[at] >= first && text[at] <= last) {
                at++;
            }
        }

        private int numberHere() {
            int v = 0;
            // Longer rows of digits are no token, so only the first three need to count.
            for (int i = start; i < at && i < start + 3; i++) {
                v = 10 * v + text[i] - '0';
            }
            return v;
        }

        private int wordHere() {
            int word = FIRST_WORD;
            int same = start;
            for (int i = 0; i < WORDS.length(); i++) {
                char c = WORDS.charAt(i);
                if (c == ' ') {
                    if (same == at) {
                        return word;
                    }
                    word++;
                    same = start;
                } else {
                    // Below start: this word is another one already.
                    same = same >= start && same < at && text[same] == c ? same + 1 : start - 1;
                }
            }
            return OTHER_WORD;
        }

        private static boolean isSign(int c) {
            return c >= '(' && c <= '+' || c == '-' || c >= ':' && c <= '>' || c == '[' || c == ']';
        }
    }

    /** Works out a law, told as steps that put numbers on a pile and join the uppermost ones. */
    private static final class Machine {
        // A step of 0 to 999 is a number, one from here on is what stands in a slot.
        static final int FIRST_SLOT = 1000;
        static final int PLUS = -1;
        static final int MINUS = -2;
        static final int TIMES = -3;
        static final int EQUAL = -4;
        static final int LESS = -5;
        static final int MORE = -6;
        static final int BOTH = -7;
        static final int EITHER = -8;
        static final int OPPOSITE = -9;

        private static final long FURTHEST = 1000000L;

        // One slot for each word of the language.
        final int[] slots = new int[21];
        // Six within one another leave two waiting at each level, so it is never half full.
        private final int[] pile = new int[64];

        int valueOf(int[] law) {
            int top = 0;
            for (int i = 0; i < law.length; i++) {
                int step = law[i];
                if (step >= 0) {
                    if (top >= pile.length || step - FIRST_SLOT >= slots.length) {
                        return 0;
                    }
                    pile[top] = step < FIRST_SLOT ? step : slots[step - FIRST_SLOT];
                    top++;
                    continue;
                }
                // Of one number, or of two of which the second is taken off the pile.
                top -= step == OPPOSITE ? 0 : 1;
                if (top < 1) {
                    return 0;
                }
                long a = pile[top - 1];
                long b = step == OPPOSITE ? 0L : pile[top];
                long v;
                switch (step) {
                    case PLUS:
                        v = a + b;
                        break;
                    case MINUS:
                        v = a - b;
                        break;
                    case TIMES:
                        v = a * b;
                        break;
                    case EQUAL:
                        v = a == b ? 1L : 0L;
                        break;
                    case LESS:
                        v = a < b ? 1L : 0L;
                        break;
                    case MORE:
                        v = a > b ? 1L : 0L;
                        break;
                    case BOTH:
                        v = a & b;
                        break;
                    case EITHER:
                        v = a | b;
                        break;
                    default:
                        v = 1L - a;
                }
                pile[top - 1] = (int) (v > FURTHEST ? FURTHEST : v < -FURTHEST ? -FURTHEST : v);
            }
            return top > 0 ? pile[0] : 0;
        }
    }

    /** How warm it is, which acts are in force by that, and what deeds of state change. */
    private static final class Sky {
        Land land = new Land();
        final int[] now = new int[ROW];
        private final Machine machine = new Machine();
        // For a ward, an hour of the day and an act: bit m tells that it is known whether the act
        // prevails where m of its kind speak, bit 16 + m that it does. A law is dear to work out.
        private final int[] prevailing = new int[MOST_WARDS * DAY * MOST_ACTS];

        void beginWith(Land told) {
            land = told;
            Arrays.fill(now, 0);
            now[HOUR] = told.firstHour;
            for (int a = 0; a < MOST_ACTS; a++) {
                now[FIRST + a] = told.first[a];
                now[SECOND + a] = told.second[a];
            }
            forgetPrevailing();
        }

        void forgetPrevailing() {
            Arrays.fill(prevailing, 0);
        }

        boolean isRepealed(int a) {
            return (now[REPEALED] >> a & 1) != 0;
        }

        int liveActs() {
            return (1 << land.acts) - 1 & ~now[REPEALED];
        }

        int laidOn(int what, int w, int hour) {
            return hour >= now[what + SINCE + w] && hour < now[what + UNTIL + w] ? now[what + w] : 0;
        }

        void layOn(int what, int w, int degrees, int hours) {
            now[what + w] = degrees;
            now[what + SINCE + w] = now[HOUR];
            now[what + UNTIL + w] = degrees == 0 ? now[HOUR] : now[HOUR] + hours;
        }

        int degreeIn(int w, int hour) {
            int fire = laidOn(FIRE, w, hour);
            int ice = laidOn(ICE, w, hour);
            if (land.degreeLaw.length == 0) {
                return keptDegree(land.base[w] + fire - ice);
            }
            int[] slots = machine.slots;
            slots[Reader.BASE - Reader.FIRST_WORD] = land.base[w];
            slots[Reader.FIRE_WORD - Reader.FIRST_WORD] = fire;
            slots[Reader.ICE_WORD - Reader.FIRST_WORD] = ice;
            slots[Reader.HOUR_WORD - Reader.FIRST_WORD] = hourOfDay(hour);
            slots[Reader.DAY_WORD - Reader.FIRST_WORD] = hour / DAY % MOST_DAYS;
            slots[Reader.WARD - Reader.FIRST_WORD] = w;
            return keptDegree(machine.valueOf(land.degreeLaw));
        }

        /** Never below 0: far beyond the calls that are promised HOUR runs over, and this is an index still. */
        static int hourOfDay(int hour) {
            return Math.floorMod(hour, DAY);
        }

        static int keptDegree(int degree) {
            return Math.max(0, Math.min(TOP_DEGREE, degree));
        }

        int codeIn(int w, int hour) {
            return inForce(w, hour, degreeIn(w, hour), liveActs());
        }

        /** The acts of a kind that aren't repealed. */
        int actsOf(int kind) {
            return liveActs() & land.actsOfKind[kind];
        }

        /** Which of some acts are in force in a degree, were there no others. */
        int inForce(int w, int hour, int degree, int among) {
            int speaking = 0;
            for (int a = 0; a < land.acts; a++) {
                if ((among >> a & 1) != 0 && now[FIRST + a] <= degree && degree <= now[SECOND + a]) {
                    speaking |= 1 << a;
                }
            }
            if (land.prevailsLaw.length == 0) {
                return speaking;
            }
            int code = 0;
            for (int a = 0; a < land.acts; a++) {
                if ((speaking >> a & 1) != 0) {
                    int many = Integer.bitCount(speaking & land.actsOfKind[land.kindOf[a]]);
                    if (prevails(a, many, w, hourOfDay(hour))) {
                        code |= 1 << a;
                    }
                }
            }
            return code;
        }

        private boolean prevails(int a, int many, int w, int hour) {
            int at = (w * DAY + hour) * MOST_ACTS + a;
            int known = prevailing[at];
            if ((known >> many & 1) == 0) {
                int[] slots = machine.slots;
                slots[Reader.ACT - Reader.FIRST_WORD] = a;
                slots[Reader.KIND - Reader.FIRST_WORD] = land.kindOf[a];
                slots[Reader.FINE - Reader.FIRST_WORD] = land.fineOf[a];
                slots[Reader.SPAN - Reader.FIRST_WORD] = now[SECOND + a] - now[FIRST + a];
                slots[Reader.MANY - Reader.FIRST_WORD] = many;
                slots[Reader.HOUR_WORD - Reader.FIRST_WORD] = hour;
                slots[Reader.WARD - Reader.FIRST_WORD] = w;
                known |= 1 << many | machine.valueOf(land.prevailsLaw) << 16 + many;
                prevailing[at] = known;
            }
            return (known >> 16 + many & 1) != 0;
        }

        /** How many hours of a deed count. */
        int measured(int lasts) {
            return land.whole ? lasts : 1;
        }

        int fineOfDeed(int kind, int w, int hour, int lasts) {
            int acts = actsOf(kind);
            int counting = measured(lasts);
            int sum = 0;
            for (int k = 0; k < counting; k++) {
                sum += land.finesOf(inForce(w, hour + k, degreeIn(w, hour + k), acts));
            }
            return sum;
        }

        int doDeed(int kind, int w, int lasts) {
            int fined = fineOfDeed(kind, w, now[HOUR], lasts);
            now[PAID] += fined;
            now[HOUR] += lasts;
            return fined;
        }

        boolean isDeed(long v) {
            return v >= 0 && v <= 9999 && v / 100 % 10 < land.wards && v % 100 >= 1 && v % 100 <= DAY;
        }

        /** Why a told one can't be: 0, if it can. */
        int whyNot(long v) {
            boolean isThere;
            if (v >= 40000 && v < 40000 + land.acts) {
                return isRepealed((int) v - 40000) ? 2 : 0;
            }
            if (v >= 20000 && v < 40000) {
                isThere = v % 10000 / 100 < land.wards && v % 100 <= TOP_LAID_ON;
            } else {
                isThere = v == NONE || isDeed(v);
            }
            return isThere ? 0 : 1;
        }

        /** Carries out a told one that can be. */
        void carryOut(long told) {
            int v = (int) told;
            if (v == NONE) {
                now[HOUR]++;
            } else if (v < 20000) {
                doDeed(v / 1000, v / 100 % 10, v % 100);
            } else if (v < 40000) {
                layOn(v < 30000 ? FIRE : ICE, v % 10000 / 100, v % 100, TOLD_HOURS);
            } else {
                now[REPEALED] |= 1 << v - 40000;
            }
        }
    }

    /** The rows as they were ahead of the latest deeds of state. */
    private static final class Past {
        private final int[] rows = new int[MOST_UNDONE * ROW];
        private int next = 0;
        int many = 0;

        void keep(int[] row) {
            System.arraycopy(row, 0, rows, next * ROW, ROW);
            next = (next + 1) % MOST_UNDONE;
            many = Math.min(MOST_UNDONE, many + 1);
        }

        /** Needs n from 1 to many. */
        void goBack(int n, int[] row) {
            next = (next + MOST_UNDONE - n) % MOST_UNDONE;
            many -= n;
            System.arraycopy(rows, next * ROW, row, 0, ROW);
        }

        void become(Past other) {
            System.arraycopy(other.rows, 0, rows, 0, rows.length);
            next = other.next;
            many = other.many;
        }
    }

    private static final class Image {
        Land land;
        final int[] now = new int[ROW];
        final Past past = new Past();

        Image(Land told) {
            land = told;
        }
    }

    private static final class Tray {
        int sort = 0;
        int many = MISSING;
        final long[] numbers = new long[MOST_NUMBERS];

        long cut(long v) {
            switch (sort) {
                case 0:
                    return (byte) v;
                case 1:
                    return (short) v;
                case 2:
                    return (int) v;
                default:
                    return v;
            }
        }
    }

    /** The hours to come in one ward, for one kind, in rows that all calls use again. */
    private static final class Outlook {
        private final Sky sky;
        private final int[] degrees = new int[SOUGHT + DAY];
        private final int[] barring = new int[SOUGHT + DAY];
        private final int[] fines = new int[SOUGHT + DAY];
        // For an hour of the day and a degree: the acts of the kind in force, as far as they were asked for.
        private final int[] byDegree = new int[DAY * (TOP_DEGREE + 1)];

        Outlook(Sky above) {
            sky = above;
        }

        private void layDegrees(int w, int ahead, int many) {
            for (int n = 0; n < many && n < degrees.length; n++) {
                degrees[n] = sky.degreeIn(w, sky.now[HOUR] + ahead + n);
            }
        }

        /** By the degrees laid, all of them more by so many: the acts of a kind in force. */
        private void layBarring(int kind, int w, int ahead, int many, int more) {
            int acts = sky.actsOf(kind);
            for (int n = 0; n < many && n < barring.length; n++) {
                int degree = Sky.keptDegree(degrees[n] + more);
                barring[n] = sky.inForce(w, sky.now[HOUR] + ahead + n, degree, acts);
            }
        }

        /** The same from now on, for the many tries of one call. */
        private void layHeated(int kind, int w, int many, int more) {
            int acts = sky.actsOf(kind);
            for (int n = 0; n < many && n < barring.length; n++) {
                int hour = sky.now[HOUR] + n;
                int degree = Sky.keptDegree(degrees[n] + more);
                int at = Sky.hourOfDay(hour) * (TOP_DEGREE + 1) + degree;
                if (byDegree[at] == NONE) {
                    byDegree[at] = sky.inForce(w, hour, degree, acts);
                }
                barring[n] = byDegree[at];
            }
        }

        private void layOut(int kind, int w, int many) {
            layDegrees(w, 0, many);
            layBarring(kind, w, 0, many, 0);
        }

        private boolean isFree(int counting) {
            for (int k = 0; k < counting && k < barring.length; k++) {
                if (barring[k] != 0) {
                    return false;
                }
            }
            return true;
        }

        private int firstFree(int counting) {
            int row = 0;
            for (int n = 0; n < SOUGHT + counting && n < barring.length; n++) {
                row = barring[n] == 0 ? row + 1 : 0;
                if (row == counting) {
                    return n + 1 - counting;
                }
            }
            return NONE;
        }

        boolean isLawfulIn(int kind, int w, int n, int lasts) {
            int counting = sky.measured(lasts);
            layDegrees(w, n, counting);
            layBarring(kind, w, n, counting, 0);
            return isFree(counting);
        }

        int soonestIn(int kind, int w, int lasts) {
            int counting = sky.measured(lasts);
            layOut(kind, w, SOUGHT + counting);
            return firstFree(counting);
        }

        int cheapestIn(int kind, int w, int lasts) {
            int counting = sky.measured(lasts);
            layOut(kind, w, SOUGHT + counting);
            int best = 0;
            int least = 0;
            int sum = 0;
            for (int k = 0; k < SOUGHT + counting && k < fines.length; k++) {
                fines[k] = sky.land.finesOf(barring[k]);
                sum += fines[k];
                if (k >= counting) {
                    sum -= fines[k - counting];
                }
                // The first deed that is whole by now is the first to compare with.
                if (k == counting - 1 || k >= counting && sum < least) {
                    least = sum;
                    best = k + 1 - counting;
                }
            }
            return best;
        }

        int manyFree(int kind, int w, int n) {
            layOut(kind, w, n);
            int many = 0;
            for (int k = 0; k < n && k < barring.length; k++) {
                if (barring[k] == 0) {
                    many++;
                }
            }
            return many;
        }

        int longestFree(int kind, int w, int n, boolean howLong) {
            layOut(kind, w, n);
            int longest = 0;
            int begins = NONE;
            int row = 0;
            for (int k = 0; k < n && k < barring.length; k++) {
                row = barring[k] == 0 ? row + 1 : 0;
                if (row > longest) {
                    longest = row;
                    begins = k + 1 - row;
                }
            }
            return howLong ? longest : begins;
        }

        int heatIn(int kind, int w, int n, int lasts) {
            int counting = sky.measured(lasts);
            layDegrees(w, n, counting);
            for (int d = 0; d <= TOP_HEAT; d++) {
                layBarring(kind, w, n, counting, d);
                if (isFree(counting)) {
                    return d;
                }
                layBarring(kind, w, n, counting, -d);
                if (isFree(counting)) {
                    return -d;
                }
            }
            return NO_SUCH_DEGREES;
        }

        int leastHeated(int kind, int w, int lasts) {
            int counting = sky.measured(lasts);
            layDegrees(w, 0, SOUGHT + counting);
            Arrays.fill(byDegree, NONE);
            for (int d = 0; d <= TOP_HEAT; d++) {
                layHeated(kind, w, SOUGHT + counting, d);
                int warmer = firstFree(counting);
                layHeated(kind, w, SOUGHT + counting, -d);
                int colder = firstFree(counting);
                if (warmer != NONE && colder != NONE) {
                    return Math.min(warmer, colder);
                }
                if (warmer != NONE || colder != NONE) {
                    return Math.max(warmer, colder);
                }
            }
            return NONE;
        }

        int heaviestIn(int w) {
            layDegrees(w, 0, DAY);
            int best = NONE;
            int most = 0;
            for (int a = 0; a < sky.land.acts; a++) {
                int live = sky.actsOf(sky.land.kindOf[a]);
                int fewer = barredHours(live, w) - barredHours(live & ~(1 << a), w);
                if (fewer > most) {
                    most = fewer;
                    best = a;
                }
            }
            return best;
        }

        /** By the degrees laid: in how many hours of the day to come some of these acts bars by themselves. */
        private int barredHours(int some, int w) {
            int many = 0;
            for (int n = 0; n < DAY; n++) {
                if (sky.inForce(w, sky.now[HOUR] + n, degrees[n], some) != 0) {
                    many++;
                }
            }
            return many;
        }

        /** The cover as bits; 0: there is none. */
        int coverIn(int kind, int w) {
            int acts = sky.actsOf(kind);
            layDegrees(w, 0, DAY);
            int best = 0;
            int fewest = MOST_ACTS + 1;
            for (int some = 1; some <= acts; some++) {
                int many = Integer.bitCount(some);
                if ((some & ~acts) == 0 && many < fewest && barredHours(some, w) == DAY) {
                    fewest = many;
                    best = some;
                }
            }
            return best;
        }
    }

    /** Ways of one kind, by what is fined in each ward in each hour to come. */
    private static final class Ways {
        private final Sky sky;
        private final int[] fined = new int[(WAY_HOURS + 1) * MOST_WARDS];
        // Wards as bits: where nothing is fined in an hour, and from where the end is reached in time.
        private final int[] free = new int[WAY_HOURS + 1];
        private final int[] reaching = new int[WAY_HOURS + 1];
        private final int[] least = new int[MOST_WARDS];
        private final int[] leastThen = new int[MOST_WARDS];
        private final long[] many = new long[MOST_WARDS];
        private final long[] manyThen = new long[MOST_WARDS];

        Ways(Sky above) {
            sky = above;
        }

        void layOut(int kind, int hours) {
            int acts = sky.actsOf(kind);
            for (int t = 0; t <= hours && t < free.length; t++) {
                int hour = sky.now[HOUR] + t;
                free[t] = 0;
                for (int w = 0; w < sky.land.wards; w++) {
                    int fine = sky.land.finesOf(sky.inForce(w, hour, sky.degreeIn(w, hour), acts));
                    fined[t * MOST_WARDS + w] = fine;
                    if (fine == 0) {
                        free[t] |= 1 << w;
                    }
                }
            }
        }

        private int stepFrom(int w) {
            return sky.land.beside[w] | 1 << w;
        }

        private int stepFromAll(int wards) {
            int reached = 0;
            for (int w = 0; w < sky.land.wards; w++) {
                if ((wards >> w & 1) != 0) {
                    reached |= stepFrom(w);
                }
            }
            return reached;
        }

        int soonestFree(int from, int to, int closed) {
            int reached = 1 << from & free[0] & ~closed;
            for (int t = 0; t <= WAY_HOURS; t++) {
                if ((reached >> to & 1) != 0) {
                    return t;
                }
                if (t < WAY_HOURS) {
                    reached = stepFromAll(reached) & free[t + 1] & ~closed;
                }
            }
            return NONE;
        }

        int wardOnFirst(int from, int to, int k) {
            int hours = soonestFree(from, to, 0);
            if (hours == NONE || k > hours) {
                return NONE;
            }
            reaching[hours] = 1 << to;
            for (int t = hours - 1; t >= 0; t--) {
                reaching[t] = stepFromAll(reaching[t + 1]) & free[t];
            }
            int w = from;
            for (int t = 1; t <= k && t < reaching.length; t++) {
                w = firstOf(stepFrom(w) & reaching[t]);
            }
            return w;
        }

        private static int firstOf(int wards) {
            int w = 0;
            while (w < MOST_WARDS - 1 && (wards >> w & 1) == 0) {
                w++;
            }
            return w;
        }

        int leastFined(int from, int to, int n) {
            Arrays.fill(least, NONE);
            least[from] = fined[from];
            for (int t = 1; t <= n && t <= WAY_HOURS; t++) {
                for (int w = 0; w < sky.land.wards; w++) {
                    int ahead = leastAmong(stepFrom(w));
                    leastThen[w] = ahead == NONE ? NONE : ahead + fined[t * MOST_WARDS + w];
                }
                System.arraycopy(leastThen, 0, least, 0, MOST_WARDS);
            }
            return least[to];
        }

        private int leastAmong(int wards) {
            int found = NONE;
            for (int w = 0; w < sky.land.wards; w++) {
                if ((wards >> w & 1) != 0 && least[w] != NONE && (found == NONE || least[w] < found)) {
                    found = least[w];
                }
            }
            return found;
        }

        long manyFree(int from, int to, int n) {
            Arrays.fill(many, 0L);
            many[from] = free[0] >> from & 1;
            for (int t = 1; t <= n && t <= WAY_HOURS; t++) {
                for (int w = 0; w < sky.land.wards; w++) {
                    manyThen[w] = (free[t] >> w & 1) == 0 ? 0L : manyAmong(stepFrom(w));
                }
                System.arraycopy(manyThen, 0, many, 0, MOST_WARDS);
            }
            return many[to];
        }

        private long manyAmong(int wards) {
            long sum = 0L;
            for (int w = 0; w < sky.land.wards; w++) {
                if ((wards >> w & 1) != 0) {
                    sum += many[w];
                }
            }
            return sum;
        }

        int bestGuard(int from, int to) {
            int latest = soonestFree(from, to, 0);
            if (latest == NONE) {
                return NONE;
            }
            int best = NONE;
            for (int w = 0; w < sky.land.wards; w++) {
                if (w != from && w != to) {
                    int hours = soonestFree(from, to, 1 << w);
                    int then = hours == NONE ? WAY_HOURS + 1 : hours;
                    if (then > latest) {
                        latest = then;
                        best = w;
                    }
                }
            }
            return best;
        }
    }

    /** Errands one behind the other. */
    private static final class Agenda {
        // The last errand begins within 200 hours behind three that took up to 200 and 24 each.
        private static final int FURTHEST = MOST_ERRANDS * (SOUGHT + DAY);
        private static final int UNKNOWN = 0;
        private static final int FREE = 1;
        private static final int BARRED = 2;

        private final Sky sky;
        private final int[] numbers = new int[MOST_ERRANDS];
        private int many = 0;
        // Whether an errand's kind is barred in an hour to come, as far as it was looked at.
        private final byte[] known = new byte[MOST_ERRANDS * FURTHEST];
        private final int[] order = new int[MOST_ERRANDS];
        private final int[] best = new int[MOST_ERRANDS];
        int bestEnd = NONE;

        Agenda(Sky above) {
            sky = above;
        }

        void take(Tray told) {
            many = Math.min(told.many, MOST_ERRANDS);
            for (int i = 0; i < many; i++) {
                numbers[i] = (int) told.numbers[i];
            }
            Arrays.fill(known, (byte) UNKNOWN);
            bestEnd = NONE;
        }

        private boolean isBarred(int i, int ahead) {
            if (ahead >= FURTHEST) {
                return true;
            }
            int at = i * FURTHEST + ahead;
            if (known[at] == UNKNOWN) {
                int w = numbers[i] / 100 % 10;
                int hour = sky.now[HOUR] + ahead;
                int acts = sky.actsOf(numbers[i] / 1000);
                known[at] = (byte) (sky.inForce(w, hour, sky.degreeIn(w, hour), acts) == 0 ? FREE : BARRED);
            }
            return known[at] == BARRED;
        }

        /** When an errand is done that waits from an hour to come on; NONE: it can't be. */
        private int endOf(int i, int ahead) {
            int lasts = numbers[i] % 100;
            int counting = sky.measured(lasts);
            int row = 0;
            for (int n = ahead; n < ahead + SOUGHT + counting; n++) {
                row = isBarred(i, n) ? 0 : row + 1;
                if (row == counting) {
                    return n + 1 - counting + lasts;
                }
            }
            return NONE;
        }

        int endInOrder() {
            int end = 0;
            for (int i = 0; i < many && end != NONE; i++) {
                end = endOf(i, end);
            }
            return end;
        }

        /** Begun with nothing placed; orders come by their places, so that a later one counts only if it ends sooner. */
        void tryOrders(int placed, int end, int used) {
            if (placed >= many) {
                if (bestEnd == NONE || end < bestEnd) {
                    bestEnd = end;
                    System.arraycopy(order, 0, best, 0, MOST_ERRANDS);
                }
                return;
            }
            for (int i = 0; i < many; i++) {
                int then = (used >> i & 1) != 0 ? NONE : endOf(i, end);
                if (then != NONE) {
                    order[placed] = i;
                    tryOrders(placed + 1, then, used | 1 << i);
                }
            }
        }

        int placeInBest(int k) {
            return bestEnd == NONE || k < 0 || k >= many ? NONE : best[k];
        }
    }

    /** By how much a thermometer was breathed on. */
    private static final class Thermometer {
        private final Sky sky;
        private final int[] degrees = new int[DAY];
        private final int[] fines = new int[2 * TOP_BREATH + 1];
        final int[] breaths = new int[2 * TOP_BREATH + 1];
        int many = 0;

        Thermometer(Sky above) {
            sky = above;
        }

        void find(Tray told, int kind, int w) {
            for (int i = 0; i < told.many && i < DAY; i++) {
                if (told.numbers[i] != NONE) {
                    degrees[i] = sky.degreeIn(w, sky.now[HOUR] - 1 - i);
                }
            }
            many = 0;
            for (int d = -TOP_BREATH; d <= TOP_BREATH; d++) {
                if (fits(told, kind, w, d)) {
                    breaths[many] = d;
                    many++;
                }
            }
        }

        private boolean fits(Tray told, int kind, int w, int d) {
            int acts = sky.actsOf(kind);
            for (int i = 0; i < told.many && i < DAY; i++) {
                long v = told.numbers[i];
                if (v != NONE && v != finedBy(acts, w, sky.now[HOUR] - 1 - i, degrees[i] + d)) {
                    return false;
                }
            }
            return true;
        }

        private int finedBy(int acts, int w, int hour, int degree) {
            return sky.land.finesOf(sky.inForce(w, hour, Sky.keptDegree(degree), acts));
        }

        int tellingHour(int kind, int w) {
            int acts = sky.actsOf(kind);
            int best = NONE;
            int least = fines.length + 1;
            for (int n = 0; n <= DAY && many > 0; n++) {
                int hour = sky.now[HOUR] + n;
                int degree = sky.degreeIn(w, hour);
                for (int i = 0; i < many; i++) {
                    fines[i] = finedBy(acts, w, hour, degree + breaths[i]);
                }
                int alike = mostAlike();
                if (alike < least) {
                    least = alike;
                    best = n;
                }
            }
            return best;
        }

        private int mostAlike() {
            int most = 0;
            for (int i = 0; i < many; i++) {
                int alike = 0;
                for (int j = 0; j < many; j++) {
                    if (fines[j] == fines[i]) {
                        alike++;
                    }
                }
                most = Math.max(most, alike);
            }
            return most;
        }
    }
}
