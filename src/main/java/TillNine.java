import java.util.Arrays;

/** Shops in one street that shut at six, seven, eight or nine, and the buyers who come to them. */
public final class TillNine {
    public static final int NONE = -1, BAD = -2, NOT = -3, FULL = -4;

    private static final int MOST_SHOPS = 5, MOST_SORTS = 6, LONGEST = 150, LATEST = 3;
    private static final int EVENINGS = 6, MOST_WEEKS = 50, MOST_ROUNDS = 40, SHEETS = 4, MOST_ITEMS = 60;
    private static final int HOUR = 0, MANY = 1, LIKES = 2, GO = 3, BACK = 4, WORTH = 5;
    private static final int LIGHT = 0, CAP = 1, SMALL = 2, FINE = 3, SEEN = 4, HABIT = 5, SETTINGS = 8;
    private static final int NULL = 1, INDEX = 2, CAST = 3, STORE = 4, SIZE = 5;
    private static final int[] HIGHEST = {16, 3, 3, 999, 16, 8, 8, 8};

    /* Sums of sizes are 1 to 15: this number can be parted by each of them without a rest. */
    private static final long PARTS = 360360L;
    /* Every amount is a whole number of 1 / UNIT: by 16 for LIGHT, 8 for HABIT, 16 for GO, 16 for BACK, then by sizes. */
    private static final long UNIT = 16L * 8L * 16L * 16L * PARTS;

    private final Street street = new Street();
    private final Trade trade = new Trade();
    private final Scene scene = new Scene(street, trade);
    private final Shelf shelf = new Shelf();
    private final int[] settings = {0, 3, 0, 0, 16, 0, 0, 0};
    private final int[] untils = new int[MOST_SHOPS];
    private final int[] turns = new int[EVENINGS];

    public TillNine() {
    }

    // ---- streets

    public int type(int b) {
        if (b < 0 || b > 255) {
            return BAD;
        }
        if (street.length >= LONGEST) {
            return FULL;
        }
        street.append(b);
        trade.stale = true;
        return street.length;
    }

    public int wipe() {
        int was = street.length;
        street.clear();
        trade.stale = true;
        return was;
    }

    public int fault() {
        return street.wrong;
    }

    public int shop(int shop, int what) {
        if (noShop(shop) || what < 0 || what > 2) {
            return BAD;
        }
        if (what == 0) {
            return street.size[shop];
        }
        if (what == 1) {
            return street.price[shop];
        }
        return street.size[shop] > settings[SMALL] ? 1 : 0;
    }

    public int sort(int sort, int what) {
        if (sort < 0 || sort >= street.sorts || what < HOUR || what > WORTH) {
            return BAD;
        }
        return street.buyers[sort][what];
    }

    public int set(int what, int v) {
        if (what < 0 || what >= SETTINGS || v < 0 || v > HIGHEST[what]) {
            return BAD;
        }
        int was = settings[what];
        settings[what] = v;
        if (what == LIGHT) {
            trade.stale = true;
        }
        return was;
    }

    public int hours(int shop, int v) {
        if (shop < 0 || shop >= MOST_SHOPS || v < 0 || v > LATEST) {
            return BAD;
        }
        int was = untils[shop];
        untils[shop] = v;
        return was;
    }

    public int read(int s) {
        int refusal = shelf.refusal(s);
        if (refusal != 0) {
            return refusal;
        }
        int most = Math.min(MOST_SHOPS, shelf.size[s]);
        for (int i = 0; i < most; i++) {
            int v = shelf.items[s][i];
            if (v < 0 || v > LATEST) {
                return i;
            }
            untils[i] = v;
        }
        return most;
    }

    public int open(int hour) {
        if (hour < 1 || hour > LATEST) {
            return BAD;
        }
        return sceneNow().lights[hour];
    }

    // ---- by hours as they are

    public long earns(int shop, int what) {
        if (noShop(shop) || noSide(what)) {
            return refused(BAD);
        }
        return fraction(sceneNow().earning(shop), what);
    }

    public long all(int which, int what) {
        if (which < 0 || which > 1 || noSide(what)) {
            return refused(BAD);
        }
        return fraction(sceneNow().aim(which), what);
    }

    public int answer(int shop) {
        if (noShop(shop)) {
            return BAD;
        }
        return sceneNow().reply(shop);
    }

    public int rest(int shop) {
        if (shop != NONE && noShop(shop)) {
            return BAD;
        }
        Scene now = sceneNow();
        if (!now.runDown()) {
            return NOT;
        }
        return shop == NONE ? now.rounds : now.until[shop];
    }

    public int still(int i, int shop) {
        if (i == NONE && shop == NONE) {
            return countStill();
        }
        if (i < 0 || noShop(shop)) {
            return BAD;
        }
        Scene now = sceneNow();
        int profiles = now.profiles();
        int found = 0;
        now.place(0);
        for (int code = 0; code < profiles; code++) {
            if (now.firstGainer() == NONE) {
                if (found == i) {
                    return now.until[shop];
                }
                found++;
            }
            now.advance();
        }
        return NONE;
    }

    public int best(int which, int shop) {
        if (which < 0 || which > 1 || noShop(shop)) {
            return BAD;
        }
        return placedBest(which).until[shop];
    }

    public long loss(int what) {
        if (noSide(what)) {
            return refused(BAD);
        }
        long most = placedBest(0).together();
        return fraction(most - sceneNow().together(), what);
    }

    // ---- law, cost

    public int leastFine() {
        Scene now = sceneNow();
        now.fine = 0L;
        now.keepLaw();
        long gain = now.lawlessGain();
        if (gain <= 0L) {
            return 0;
        }
        if (settings[SEEN] == 0) {
            return NONE;
        }
        long least = ceiling(gain, settings[SEEN] * (UNIT / 16L));
        return least > HIGHEST[FINE] ? NONE : (int) least;
    }

    public long bestCap(int what) {
        if (what < 0 || what > 2) {
            return refused(BAD);
        }
        int cap = bestCapNow();
        if (what == 2) {
            return cap;
        }
        if (cap == NONE || !restsUnder(cap)) {
            return refused(NOT);
        }
        return fraction(scene.together(), what);
    }

    public int edge(int shop) {
        if (noShop(shop)) {
            return BAD;
        }
        long least = sceneNow().shuttingPrice(shop);
        return least > 99L ? NONE : (int) least;
    }

    public long always(int shop, int what) {
        if (noShop(shop) || noSide(what)) {
            return refused(BAD);
        }
        Scene now = sceneNow();
        now.become(shop, LATEST);
        now.held = shop;
        if (!now.runDown()) {
            return refused(NOT);
        }
        long held = now.earning(shop);
        now = sceneNow();
        if (!now.runDown()) {
            return refused(NOT);
        }
        return fraction(held - now.earning(shop), what);
    }

    // ---- evenings, weeks

    public int turn(int evening, int shops) {
        if (evening < 0 || evening >= EVENINGS || shops < 0 || shops >= 1 << MOST_SHOPS) {
            return BAD;
        }
        int was = turns[evening];
        turns[evening] = shops;
        return was;
    }

    public int keeps(int what) {
        if (what < 0 || what > 1) {
            return BAD;
        }
        Scene now = sceneNow();
        for (int evening = 0; evening < EVENINGS; evening++) {
            now.openTillNine(turns[evening]);
            int gainer = now.firstGainer();
            if (gainer != NONE) {
                return what == 0 ? evening : gainer;
            }
        }
        return NONE;
    }

    public long week(int shop, int what) {
        if (noShop(shop) || noSide(what)) {
            return refused(BAD);
        }
        Scene now = sceneNow();
        long sum = 0L;
        for (int evening = 0; evening < EVENINGS; evening++) {
            now.openTillNine(turns[evening]);
            sum += now.earning(shop);
        }
        return fraction(sum, what);
    }

    public int weeks(int t, int which) {
        if (t < 0 || t > MOST_WEEKS || which < 0 || which >= MOST_SHOPS + LATEST) {
            return BAD;
        }
        return sceneAfter(t).hourOrHabit(which);
    }

    public int back() {
        Scene now = sceneNow();
        for (int t = 0; t <= MOST_WEEKS; t++) {
            if (!now.earlyIsStill()) {
                return t;
            }
            now.passWeek();
        }
        return NONE;
    }

    // ---- sheets

    public int sheet(int s, int form, int n) {
        if (Shelf.noSheet(s) || Shelf.noForm(form) || n > MOST_ITEMS) {
            return BAD;
        }
        if (n < 0) {
            return shelf.finding(SIZE);
        }
        shelf.renew(s, form, n);
        return n;
    }

    public int lose(int s) {
        int refusal = shelf.refusal(s);
        if (refusal != 0) {
            return refusal;
        }
        shelf.form[s] = NONE;
        return shelf.size[s];
    }

    public int lay(int s, int form, int i, int v) {
        int refusal = shelf.refusalOfItem(s, form, i);
        if (refusal != 0) {
            return refusal;
        }
        shelf.put(s, i, v);
        return 1;
    }

    public int get(int s, int form, int i) {
        if (shelf.refusalOfItem(s, form, i) != 0) {
            return Integer.MIN_VALUE;
        }
        return shelf.items[s][i];
    }

    public int copy(int s, int i, int t, int j, int n) {
        if (Shelf.noSheet(s) || Shelf.noSheet(t)) {
            return BAD;
        }
        if (shelf.form[s] == NONE || shelf.form[t] == NONE) {
            return shelf.finding(NULL);
        }
        if (shelf.form[s] != shelf.form[t]) {
            return shelf.finding(STORE);
        }
        if (shelf.lacks(s, i, n) || shelf.lacks(t, j, n)) {
            return shelf.finding(INDEX);
        }
        System.arraycopy(shelf.items[s], i, shelf.items[t], j, n);
        return 1;
    }

    public int write(int s) {
        int refusal = shelf.refusal(s);
        if (refusal != 0) {
            return refusal;
        }
        Scene now = sceneNow();
        int most = Math.min(shelf.size[s], street.shops);
        for (int i = 0; i < most; i++) {
            shelf.put(s, i, now.reply(i));
        }
        return most;
    }

    public int count(int what) {
        switch (what) {
            case 0:
                return street.shops;
            case 1:
                return street.sorts;
            case 2:
                return street.length;
            case 3:
                return sum(untils, 0, street.shops);
            case 4:
                return sum(turns, 0, EVENINGS);
            case 5:
                return sum(settings, HABIT, SETTINGS);
            case 6:
                return settings[CAP];
            case 7:
                return street.crowd();
            case 8:
                return shelf.latest;
            default:
                return BAD;
        }
    }

    public long digest() {
        long h = 17L;
        for (int what = 0; what <= 7; what++) {
            h = 31L * h + count(what);
        }
        h = 31L * h + fault();
        int forShops = bestCode(0);
        int forBuyers = bestCode(1);
        for (int shop = 0; shop < street.shops; shop++) {
            h = 31L * h + earns(shop, 0);
            h = 31L * h + earns(shop, 1);
            h = 31L * h + answer(shop);
            h = 31L * h + rest(shop);
            h = 31L * h + scene.digit(forShops, shop);
            h = 31L * h + scene.digit(forBuyers, shop);
        }
        for (int which = 0; which <= 1; which++) {
            h = 31L * h + all(which, 0);
            h = 31L * h + all(which, 1);
        }
        h = 31L * h + rest(NONE);
        h = 31L * h + countStill();
        h = 31L * h + leastFine();
        h = 31L * h + keeps(0);
        h = 31L * h + keeps(1);
        Scene later = sceneAfter(5);
        for (int which = 0; which < MOST_SHOPS + LATEST; which++) {
            h = 31L * h + later.hourOrHabit(which);
        }
        return 31L * h + back();
    }

    // ---- what the calls share

    /* There is one scene, set up anew by each call, so that no call makes an object. */
    private Scene sceneNow() {
        if (trade.stale) {
            trade.fill(street, settings[LIGHT]);
        }
        scene.begin(untils, settings);
        return scene;
    }

    private Scene sceneAfter(int t) {
        Scene now = sceneNow();
        for (int i = 0; i < t; i++) {
            now.passWeek();
        }
        return now;
    }

    private int countStill() {
        Scene now = sceneNow();
        int profiles = now.profiles();
        int found = 0;
        now.place(0);
        for (int code = 0; code < profiles; code++) {
            if (now.firstGainer() == NONE) {
                found++;
            }
            now.advance();
        }
        return found;
    }

    private int bestCode(int which) {
        Scene now = sceneNow();
        int profiles = now.profiles();
        int first = 0;
        long most = Long.MIN_VALUE;
        now.place(0);
        for (int code = 0; code < profiles; code++) {
            long amount = now.aim(which);
            if (amount > most) {
                most = amount;
                first = code;
            }
            now.advance();
        }
        return first;
    }

    private Scene placedBest(int which) {
        scene.place(bestCode(which));
        return scene;
    }

    private int bestCapNow() {
        int first = NONE;
        long most = 0L;
        for (int cap = 0; cap <= LATEST; cap++) {
            if (restsUnder(cap)) {
                long amount = scene.together();
                if (first == NONE || amount > most) {
                    most = amount;
                    first = cap;
                }
            }
        }
        return first;
    }

    private boolean restsUnder(int cap) {
        Scene now = sceneNow();
        now.fine = 0L;
        now.openTillNine(0);
        now.limitBound(cap);
        return now.runDown();
    }

    private boolean noShop(int shop) {
        return shop < 0 || shop >= street.shops;
    }

    private static boolean noSide(int what) {
        return what < 0 || what > 1;
    }

    private static long refused(int code) {
        return Long.MIN_VALUE - code;
    }

    private static long fraction(long amount, int what) {
        long common = divisor(Math.abs(amount), UNIT);
        if (common == 0L) {
            return 0L;
        }
        return what == 0 ? amount / common : UNIT / common;
    }

    /* Euclid on longs needs fewer than 100 steps. */
    private static long divisor(long a, long b) {
        long x = a;
        long y = b;
        for (int i = 0; i < 200 && y != 0L; i++) {
            long next = x % y;
            x = y;
            y = next;
        }
        return x;
    }

    private static long ceiling(long amount, long by) {
        if (amount <= 0L || by <= 0L) {
            return 0L;
        }
        return (amount - 1L) / by + 1L;
    }

    private static int sum(int[] row, int from, int to) {
        int sum = 0;
        for (int i = from; i < to && i < row.length; i++) {
            sum += row[i];
        }
        return sum;
    }

    /** The text, and what it tells. */
    private static final class Street {
        final int[] text = new int[LONGEST];
        final int[] size = new int[MOST_SHOPS];
        final int[] price = new int[MOST_SHOPS];
        final int[][] buyers = new int[MOST_SORTS][WORTH + 1];
        int length;
        int shops;
        int sorts;
        int wrong = NONE;
        int at;

        void append(int b) {
            if (length < LONGEST) {
                text[length] = b;
                length++;
                parse();
            }
        }

        void clear() {
            length = 0;
            parse();
        }

        int crowd() {
            int many = 0;
            for (int i = 0; i < sorts; i++) {
                many += buyers[i][MANY];
            }
            return many;
        }

        private void parse() {
            shops = 0;
            sorts = 0;
            wrong = NONE;
            at = 0;
            boolean more = length > 0;
            for (int part = 0; part <= LONGEST && more; part++) {
                takePart();
                more = wrong == NONE && at < length;
                if (more) {
                    takeSign(';');
                    more = wrong == NONE;
                }
            }
            if (wrong != NONE) {
                shops = 0;
                sorts = 0;
            }
        }

        private void takePart() {
            int sign = next();
            if (sign == 's' && shops < MOST_SHOPS) {
                takeShop();
            } else if (sign == 'b' && sorts < MOST_SORTS) {
                takeSort();
            } else {
                fail(at);
            }
        }

        private void takeShop() {
            at++;
            int big = takeFigure();
            takeSign(',');
            int dear = takeNumber(0, 99);
            if (wrong == NONE) {
                size[shops] = big;
                price[shops] = dear;
                shops++;
            }
        }

        private void takeSort() {
            at++;
            int[] row = buyers[sorts];
            row[HOUR] = takeFigure();
            takeSign(',');
            row[MANY] = takeNumber(1, 99);
            takeSign(',');
            row[LIKES] = takeLiked();
            takeSign(',');
            row[GO] = takeNumber(0, 16);
            takeSign(',');
            row[BACK] = takeNumber(0, 16);
            takeSign(',');
            row[WORTH] = takeNumber(1, 99);
            if (wrong == NONE) {
                sorts++;
            }
        }

        private void takeSign(int sign) {
            if (next() == sign) {
                at++;
            } else {
                fail(at);
            }
        }

        private int takeFigure() {
            int figure = next() - '0';
            if (figure < 1 || figure > 3) {
                fail(at);
                return 0;
            }
            at++;
            return figure;
        }

        private int takeLiked() {
            int sign = next();
            int liked = sign == '-' ? NONE : sign - '0';
            if (sign != '-' && (liked < 0 || liked >= shops)) {
                fail(at);
                return NONE;
            }
            at++;
            return liked;
        }

        private int takeNumber(int least, int most) {
            int first = at;
            int number = 0;
            for (int i = 0; i < 2 && isFigure(next()); i++) {
                number = 10 * number + next() - '0';
                at++;
            }
            if (at == first || number < least || number > most) {
                fail(first);
            }
            return number;
        }

        private int next() {
            return at >= 0 && at < length ? text[at] : NONE;
        }

        private static boolean isFigure(int sign) {
            return sign >= '0' && sign <= '9';
        }

        /* What comes behind the first fault is read on, but tells nothing. */
        private void fail(int place) {
            if (wrong == NONE) {
                wrong = place;
            }
        }
    }

    /** What buyers bring in an hour, by which shops are open in it; without HABIT, which comes with the scene. */
    private static final class Trade {
        static final int SETS = 1 << MOST_SHOPS, BROUGHT = MOST_SHOPS, SERVED = MOST_SHOPS + 1, ROW = MOST_SHOPS + 2;
        final long[] table = new long[LATEST * SETS * ROW];
        boolean stale;

        static int rowOf(int hour, int open) {
            return ((hour - 1) * SETS + open) * ROW;
        }

        void fill(Street street, int light) {
            stale = false;
            Arrays.fill(table, 0L);
            int sets = 1 << street.shops;
            for (int i = 0; i < street.sorts; i++) {
                for (int open = 0; open < sets; open++) {
                    addBuyers(street, street.buyers[i], open, light);
                }
            }
        }

        private void addBuyers(Street street, int[] sort, int open, int light) {
            int row = rowOf(sort[HOUR], open);
            int lit = Integer.bitCount(open);
            long crowd = sort[MANY] * (lit == 0 ? 16L : 16L + light * (lit - 1L)) * PARTS;
            int liked = sort[LIKES];
            if (liked != NONE && (open >> liked & 1) == 1) {
                part(street, row, 1 << liked, crowd * 256L, sort[WORTH]);
                return;
            }
            int going = lit == 0 ? 0 : sort[GO];
            part(street, row, open, crowd * going * 16L, sort[WORTH]);
            int early = liked == NONE ? SETS - 1 : 1 << liked;
            part(street, row, early, crowd * (16 - going) * sort[BACK], sort[WORTH]);
        }

        private void part(Street street, int row, int among, long buyers, int worth) {
            int sizes = 0;
            for (int shop = 0; shop < street.shops; shop++) {
                sizes += (among >> shop & 1) * street.size[shop];
            }
            if (sizes == 0) {
                return;
            }
            long each = buyers / sizes;
            for (int shop = 0; shop < street.shops; shop++) {
                if ((among >> shop & 1) == 1) {
                    table[row + shop] += each * street.size[shop] * worth;
                }
            }
            table[row + BROUGHT] += buyers * worth;
            table[row + SERVED] += buyers;
        }
    }

    /** Hours and habits that may be tried without changing those of the street. */
    private static final class Scene {
        final Street street;
        final Trade trade;
        final int[] until = new int[MOST_SHOPS];
        final int[] limit = new int[MOST_SHOPS];
        final int[] habit = new int[LATEST + 1];
        final int[] before = new int[MOST_SHOPS];
        final int[] lights = new int[LATEST + 1];
        final long[] offers = new long[LATEST + 1];
        int cap;
        int small;
        long fine;
        int held;
        int rounds;

        Scene(Street street, Trade trade) {
            this.street = street;
            this.trade = trade;
        }

        void begin(int[] untils, int[] settings) {
            System.arraycopy(untils, 0, until, 0, MOST_SHOPS);
            Arrays.fill(limit, LATEST);
            System.arraycopy(settings, HABIT, habit, 1, LATEST);
            cap = settings[CAP];
            small = settings[SMALL];
            fine = settings[FINE] * settings[SEEN] * (UNIT / 16L);
            held = NONE;
            rounds = 0;
            Arrays.fill(lights, 0);
            for (int shop = 0; shop < street.shops; shop++) {
                become(shop, until[shop]);
            }
        }

        /* Keeps the lights in step: each change of a shop that is there goes through here. */
        void become(int shop, int hours) {
            until[shop] = hours;
            for (int hour = 1; hour <= LATEST; hour++) {
                if (hours >= hour) {
                    lights[hour] |= 1 << shop;
                } else {
                    lights[hour] &= ~(1 << shop);
                }
            }
        }

        boolean bound(int shop) {
            return street.size[shop] > small;
        }

        void openTillNine(int shops) {
            for (int shop = 0; shop < street.shops; shop++) {
                become(shop, (shops >> shop & 1) * LATEST);
            }
        }

        /* The first shop's hours are compared first, so its digit is the highest. */
        int digit(int code, int shop) {
            return code >> 2 * (street.shops - 1 - shop) & 3;
        }

        int profiles() {
            return 1 << 2 * street.shops;
        }

        void place(int code) {
            for (int shop = 0; shop < street.shops; shop++) {
                become(shop, digit(code, shop));
            }
        }

        /* From the hours of one code to those of the next; from the last to the first. */
        void advance() {
            for (int shop = street.shops - 1; shop >= 0; shop--) {
                if (until[shop] < LATEST) {
                    become(shop, until[shop] + 1);
                    return;
                }
                become(shop, 0);
            }
        }

        private long taken(int column) {
            long sum = 0L;
            for (int hour = 1; hour <= LATEST; hour++) {
                sum += trade.table[Trade.rowOf(hour, lights[hour]) + column] * (8 + habit[hour]);
            }
            return sum;
        }

        private long burden(int shop, int hours) {
            long cost = street.price[shop] * hours * UNIT;
            return hours > cap && street.size[shop] > small ? cost + fine : cost;
        }

        long earning(int shop) {
            return taken(shop) - burden(shop, until[shop]);
        }

        long together() {
            long sum = taken(Trade.BROUGHT);
            for (int shop = 0; shop < street.shops; shop++) {
                sum -= burden(shop, until[shop]);
            }
            return sum;
        }

        long aim(int which) {
            return which == 0 ? together() : taken(Trade.SERVED);
        }

        /* What the shop would earn by each of its hours: an hour's buyers hang on that hour's lights alone. */
        private void weigh(int shop) {
            int own = 1 << shop;
            long brought = 0L;
            for (int hour = 1; hour <= LATEST; hour++) {
                int others = lights[hour] & ~own;
                long shut = trade.table[Trade.rowOf(hour, others) + shop] * (8 + habit[hour]);
                long open = trade.table[Trade.rowOf(hour, others | own) + shop] * (8 + habit[hour]);
                brought += shut;
                offers[hour] = open - shut;
            }
            offers[0] = brought;
            for (int hours = 1; hours <= LATEST; hours++) {
                brought += offers[hours];
                offers[hours] = brought - burden(shop, hours);
            }
        }

        int reply(int shop) {
            weigh(shop);
            int first = 0;
            for (int hours = 1; hours <= limit[shop]; hours++) {
                if (offers[hours] > offers[first]) {
                    first = hours;
                }
            }
            return first;
        }

        /* Whether it comes to rest. A shop stays where it is if its answer earns no more. */
        boolean runDown() {
            for (int round = 0; round < MOST_ROUNDS; round++) {
                boolean moved = false;
                for (int shop = 0; shop < street.shops; shop++) {
                    int reply = reply(shop);
                    if (shop != held && offers[reply] > offers[until[shop]]) {
                        become(shop, reply);
                        moved = true;
                    }
                }
                if (!moved) {
                    rounds = round;
                    return true;
                }
            }
            return false;
        }

        int firstGainer() {
            for (int shop = 0; shop < street.shops; shop++) {
                int reply = reply(shop);
                if (offers[reply] > offers[until[shop]]) {
                    return shop;
                }
            }
            return NONE;
        }

        void limitBound(int most) {
            for (int shop = 0; shop < street.shops; shop++) {
                limit[shop] = bound(shop) ? most : LATEST;
            }
        }

        void keepLaw() {
            for (int shop = 0; shop < street.shops; shop++) {
                if (bound(shop)) {
                    become(shop, Math.min(until[shop], cap));
                }
            }
        }

        long lawlessGain() {
            long most = 0L;
            for (int shop = 0; shop < street.shops; shop++) {
                if (bound(shop)) {
                    weigh(shop);
                    for (int hours = cap + 1; hours <= LATEST; hours++) {
                        most = Math.max(most, offers[hours] - offers[until[shop]]);
                    }
                }
            }
            return most;
        }

        long shuttingPrice(int shop) {
            weigh(shop);
            long least = 0L;
            for (int hours = 1; hours <= LATEST; hours++) {
                long cost = street.price[shop] * hours * UNIT;
                least = Math.max(least, ceiling(offers[hours] + cost - offers[0], hours * UNIT));
            }
            return least;
        }

        private void remember() {
            System.arraycopy(until, 0, before, 0, MOST_SHOPS);
        }

        private void recall() {
            for (int shop = 0; shop < street.shops; shop++) {
                become(shop, before[shop]);
            }
        }

        boolean earlyIsStill() {
            remember();
            openTillNine(0);
            boolean none = firstGainer() == NONE;
            recall();
            return none;
        }

        void passWeek() {
            remember();
            if (!runDown()) {
                recall();
            }
            for (int hour = 1; hour <= LATEST; hour++) {
                habit[hour] = lights[hour] != 0 ? Math.min(8, habit[hour] + 1) : Math.max(0, habit[hour] - 1);
            }
        }

        int hourOrHabit(int which) {
            return which < MOST_SHOPS ? until[which] : habit[which - MOST_SHOPS + 1];
        }
    }

    /** The sheets, each a row of ints with the form by which its items are cut. */
    private static final class Shelf {
        final int[] form = {NONE, NONE, NONE, NONE};
        final int[] size = new int[SHEETS];
        final int[][] items = new int[SHEETS][MOST_ITEMS];
        int latest;

        static boolean noSheet(int s) {
            return s < 0 || s >= SHEETS;
        }

        static boolean noForm(int form) {
            return form < 0 || form > 2;
        }

        int finding(int number) {
            latest = number;
            return -10 - number;
        }

        int refusal(int s) {
            if (noSheet(s)) {
                return BAD;
            }
            return form[s] == NONE ? finding(NULL) : 0;
        }

        int refusalOfItem(int s, int asForm, int i) {
            if (noSheet(s) || noForm(asForm)) {
                return BAD;
            }
            if (form[s] == NONE) {
                return finding(NULL);
            }
            if (form[s] != asForm) {
                return finding(CAST);
            }
            return i < 0 || i >= size[s] ? finding(INDEX) : 0;
        }

        boolean lacks(int s, int from, int n) {
            return from < 0 || n < 0 || (long) from + n > size[s];
        }

        void renew(int s, int newForm, int n) {
            form[s] = newForm;
            size[s] = n;
            Arrays.fill(items[s], 0);
        }

        void put(int s, int i, int v) {
            if (form[s] == 0) {
                items[s][i] = (byte) v;
            } else if (form[s] == 1) {
                items[s][i] = (short) v;
            } else {
                items[s][i] = v;
            }
        }
    }
}
