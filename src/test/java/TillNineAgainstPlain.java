import java.math.BigInteger;
import java.util.ArrayList;
import java.util.HashMap;
import java.util.List;
import java.util.Map;
import java.util.Random;
import java.util.TreeMap;

/** Plays seeded runs of calls on TillNine and on a slow model that follows the document word by word. */
public final class TillNineAgainstPlain {
    private static int wrong = 0;
    private static int compared = 0;
    private static final Map<String, Integer> SEEN_KINDS = new TreeMap<>();

    public static void main(String[] args) {
        int runs = args.length > 0 ? Integer.parseInt(args[0]) : 400;
        long seed = args.length > 1 ? Long.parseLong(args[1]) : 9;
        for (int run = 0; run < runs && wrong < 20; run++) {
            play(run, new Random(seed * 1000003L + run));
        }
        for (int i = 0; i < LONG_WAYS.length; i++) {
            goLong(-1 - i, LONG_WAYS[i]);
        }
        if (args.length > 2) {
            SEEN_KINDS.forEach((k, n) -> System.out.println(k + ": " + n));
        }
        System.out.println(compared + " answers compared, " + wrong + " not as due");
        if (wrong != 0) {
            System.exit(1);
        }
    }

    private static void play(int run, Random r) {
        TillNine x = new TillNine();
        Plain p = new Plain();
        List<String> log = new ArrayList<>();
        int calls = 0;
        int most = 512;
        int wanted = 60 + r.nextInt(200);
        while (calls < wanted && calls < most) {
            if (calls == 0 || r.nextInt(60) == 0) {
                String text = street(r);
                if (calls > 0) {
                    check(run, log, "wipe()", x.wipe(), p.wipe());
                    calls++;
                }
                for (int i = 0; i < text.length() && calls < most; i++) {
                    check(run, log, "type(" + (int) text.charAt(i) + ")", x.type(text.charAt(i)), p.type(text.charAt(i)));
                    calls++;
                }
                wanted = Math.max(wanted, calls + 40);
            } else {
                one(run, r, x, p, log);
                calls++;
            }
        }
        check(run, log, "digest()", x.digest(), p.digest());
    }

    /* Streets with many rounds or weeks before they rest, which chance does not find: text, settings, hours. */
    private static final String[][] LONG_WAYS = {
        {"s3,72;s1,87;s3,63;s3,71;s2,56;b3,89,4,11,14,2;b2,29,1,12,13,9;b2,14,-,10,2,15;b3,44,-,0,5,38;b1,12,-,14,16,16",
            "0 1 0 865 3 0 3 2", "0 0 1 3 2"},
        {"s1,4;s3,70;s2,86;s3,96;s3,88;b1,73,-,0,15,68;b1,34,1,0,16,49;b1,70,-,2,1,4;b2,99,2,10,8,2;b3,39,2,13,15,2;b2,71,-,0,12,77",
            "4 0 0 428 16 1 7 8", "1 1 0 1 0"},
        {"s1,16;s2,59;s1,89;s3,75;s1,0;b1,60,-,0,12,77;b3,1,0,1,8,54;b3,37,2,0,9,4;b2,12,-,9,1,6", "6 0 0 973 6 3 2 8", "2 2 3 3 0"},
        {"s3,99;s1,99;s2,14;s1,5;s1,49;b2,29,4,9,9,2;b1,99,-,6,9,17;b3,1,4,5,12,65;b1,38,4,16,0,11", "0 0 0 968 7 1 8 8", "0 0 0 0 0"},
        {"s1,0;s2,54;s1,79;s2,78;s3,0;b3,21,3,12,10,9;b3,89,-,12,11,3;b3,21,2,1,7,19;b3,15,1,10,1,10;b2,59,1,3,0,1;b1,12,3,5,3,3",
            "9 2 0 525 15 0 6 1", "0 0 1 3 3"}};

    private static void goLong(int run, String[] way) {
        TillNine x = new TillNine();
        Plain p = new Plain();
        List<String> log = new ArrayList<>();
        for (char c : way[0].toCharArray()) {
            check(run, log, "type(" + (int) c + ")", x.type(c), p.type(c));
        }
        String[] settings = way[1].split(" ");
        for (int what = 0; what < 8; what++) {
            int v = Integer.parseInt(settings[what]);
            check(run, log, "set(" + what + ", " + v + ")", x.set(what, v), p.set(what, v));
        }
        String[] hours = way[2].split(" ");
        for (int shop = 0; shop < 5; shop++) {
            int v = Integer.parseInt(hours[shop]);
            check(run, log, "hours(" + shop + ", " + v + ")", x.hours(shop, v), p.hours(shop, v));
        }
        for (int shop = -1; shop < 5; shop++) {
            check(run, log, "rest(" + shop + ")", x.rest(shop), p.rest(shop));
        }
        check(run, log, "back()", x.back(), p.back());
        for (int t = 0; t <= 50; t += 2) {
            for (int which = 0; which < 8; which++) {
                check(run, log, "weeks(" + t + ", " + which + ")", x.weeks(t, which), p.weeks(t, which));
            }
        }
        check(run, log, "digest()", x.digest(), p.digest());
    }

    private static void check(int run, List<String> log, String call, long got, long due) {
        compared++;
        String kind = call.substring(0, call.indexOf('(')) + " " + (due < Long.MIN_VALUE + 100 ? "refused " + (Long.MIN_VALUE - due)
            : due == Integer.MIN_VALUE ? "least int" : due < 0 && due > -20 ? "" + due : "told");
        SEEN_KINDS.merge(kind, 1, Integer::sum);
        log.add(call);
        if (got != due) {
            wrong++;
            System.out.println("run " + run + ": " + call + " answered " + got + ", due is " + due);
            if (wrong == 1) {
                System.out.println(log);
            }
        }
    }

    private static int num(Random r, int least, int most) {
        int k = r.nextInt(24);
        return k == 0 ? least - 1 : k == 1 ? most + 1 : k == 2 ? least : k == 3 ? most : least + r.nextInt(most - least + 1);
    }

    private static int any(Random r, int least, int most) {
        int k = r.nextInt(40);
        return k == 0 ? Integer.MIN_VALUE : k == 1 ? Integer.MAX_VALUE : num(r, least, most);
    }

    private static void one(int run, Random r, TillNine x, Plain p, List<String> log) {
        int top = Math.max(0, p.sizes.size() - 1);
        int sh = r.nextInt(12) == 0 ? any(r, -1, 5) : r.nextInt(top + 1);
        int a, b, c, d, e;
        switch (r.nextInt(40)) {
            case 0: if (r.nextInt(8) > 0) break; a = any(r, 0, 255); check(run, log, "type(" + a + ")", x.type(a), p.type(a)); break;
            case 1: check(run, log, "fault()", x.fault(), p.fault()); break;
            case 2: a = any(r, 0, 2); check(run, log, "shop(" + sh + ", " + a + ")", x.shop(sh, a), p.shop(sh, a)); break;
            case 3: a = any(r, 0, 5); b = any(r, 0, 5); check(run, log, "sort(" + a + ", " + b + ")", x.sort(a, b), p.sort(a, b)); break;
            case 4: case 5: case 6: case 7:
                a = any(r, 0, 7); b = any(r, 0, a < 0 || a > 7 ? 3 : Plain.TOP[a]);
                check(run, log, "set(" + a + ", " + b + ")", x.set(a, b), p.set(a, b)); break;
            case 8: case 9: case 10: a = any(r, 0, 4); b = any(r, 0, 3); check(run, log, "hours(" + a + ", " + b + ")", x.hours(a, b), p.hours(a, b)); break;
            case 11: a = any(r, 0, 3); check(run, log, "read(" + a + ")", x.read(a), p.read(a)); break;
            case 12: a = any(r, 1, 3); check(run, log, "open(" + a + ")", x.open(a), p.open(a)); break;
            case 13: a = any(r, 0, 1); check(run, log, "earns(" + sh + ", " + a + ")", x.earns(sh, a), p.earns(sh, a)); break;
            case 14: a = any(r, 0, 1); b = any(r, 0, 1); check(run, log, "all(" + a + ", " + b + ")", x.all(a, b), p.all(a, b)); break;
            case 15: check(run, log, "answer(" + sh + ")", x.answer(sh), p.answer(sh)); break;
            case 16: a = r.nextInt(3) == 0 ? -1 : sh; check(run, log, "rest(" + a + ")", x.rest(a), p.rest(a)); break;
            case 17: a = any(r, 0, 3); check(run, log, "still(" + a + ", " + sh + ")", x.still(a, sh), p.still(a, sh)); break;
            case 18: check(run, log, "still(-1, -1)", x.still(-1, -1), p.still(-1, -1)); break;
            case 19: a = any(r, 0, 1); check(run, log, "best(" + a + ", " + sh + ")", x.best(a, sh), p.best(a, sh)); break;
            case 20: a = any(r, 0, 1); check(run, log, "loss(" + a + ")", x.loss(a), p.loss(a)); break;
            case 21: check(run, log, "leastFine()", x.leastFine(), p.leastFine()); break;
            case 22: a = any(r, 0, 2); check(run, log, "bestCap(" + a + ")", x.bestCap(a), p.bestCap(a)); break;
            case 23: check(run, log, "edge(" + sh + ")", x.edge(sh), p.edge(sh)); break;
            case 24: a = any(r, 0, 1); check(run, log, "always(" + sh + ", " + a + ")", x.always(sh, a), p.always(sh, a)); break;
            case 25: case 26: a = any(r, 0, 5); b = any(r, 0, 31); check(run, log, "turn(" + a + ", " + b + ")", x.turn(a, b), p.turn(a, b)); break;
            case 27: a = any(r, 0, 1); check(run, log, "keeps(" + a + ")", x.keeps(a), p.keeps(a)); break;
            case 28: a = any(r, 0, 1); check(run, log, "week(" + sh + ", " + a + ")", x.week(sh, a), p.week(sh, a)); break;
            case 29: a = r.nextBoolean() ? r.nextInt(12) : any(r, 0, 50); b = any(r, 0, 7); check(run, log, "weeks(" + a + ", " + b + ")", x.weeks(a, b), p.weeks(a, b)); break;
            case 30: check(run, log, "back()", x.back(), p.back()); break;
            case 31: case 32: a = any(r, 0, 3); b = any(r, 0, 2); c = r.nextBoolean() ? r.nextInt(8) : any(r, 0, 60);
                check(run, log, "sheet(" + a + ", " + b + ", " + c + ")", x.sheet(a, b, c), p.sheet(a, b, c)); break;
            case 33: if (r.nextInt(3) == 0) { a = any(r, 0, 3); check(run, log, "lose(" + a + ")", x.lose(a), p.lose(a)); } break;
            case 34: case 35: a = any(r, 0, 3); b = form(r, p, a); c = any(r, 0, 6); d = r.nextInt(3) == 0 ? r.nextInt() : r.nextInt(5);
                check(run, log, "lay(" + a + ", " + b + ", " + c + ", " + d + ")", x.lay(a, b, c, d), p.lay(a, b, c, d)); break;
            case 36: a = any(r, 0, 3); b = form(r, p, a); c = any(r, 0, 6);
                check(run, log, "get(" + a + ", " + b + ", " + c + ")", x.get(a, b, c), p.get(a, b, c)); break;
            case 37: a = any(r, 0, 3); b = any(r, 0, 4); c = r.nextInt(3) == 0 ? a : any(r, 0, 3); d = any(r, 0, 4); e = any(r, 0, 4);
                check(run, log, "copy(" + a + ", " + b + ", " + c + ", " + d + ", " + e + ")", x.copy(a, b, c, d, e), p.copy(a, b, c, d, e)); break;
            case 38: a = any(r, 0, 3); check(run, log, "write(" + a + ")", x.write(a), p.write(a)); break;
            default: a = any(r, 0, 8); check(run, log, "count(" + a + ")", x.count(a), p.count(a)); break;
        }
    }

    private static int form(Random r, Plain p, int s) {
        return s >= 0 && s < 4 && p.sheets[s] != null && r.nextInt(8) > 0 ? p.forms[s] : any(r, 0, 2);
    }

    private static String street(Random r) {
        StringBuilder t = new StringBuilder();
        int shops = r.nextInt(10) == 0 ? r.nextInt(7) : 1 + r.nextInt(4);
        int sorts = r.nextInt(10) == 0 ? 7 : 1 + r.nextInt(6);
        int soft = r.nextInt(3);
        for (int i = 0; i < shops; i++) {
            t.append(i > 0 ? ";" : "").append('s').append(1 + r.nextInt(3)).append(',');
            t.append(figures(r, soft == 0 ? r.nextInt(100) : r.nextInt(25)));
        }
        for (int i = 0; i < sorts; i++) {
            t.append(t.length() > 0 ? ";" : "").append('b').append(1 + r.nextInt(3)).append(',');
            t.append(figures(r, 1 + r.nextInt(99))).append(',');
            t.append(shops == 0 || r.nextBoolean() ? "-" : "" + r.nextInt(shops)).append(',');
            t.append(figures(r, r.nextInt(17))).append(',').append(figures(r, r.nextInt(17))).append(',');
            t.append(figures(r, soft == 2 ? 1 + r.nextInt(99) : 1 + r.nextInt(4)));
        }
        int spoils = r.nextInt(5) == 0 ? 1 + r.nextInt(2) : 0;
        String signs = "sb;,-0123456789x\u0000\u00ff";
        for (int i = 0; i < spoils && t.length() > 0; i++) {
            int at = r.nextInt(t.length());
            char sign = signs.charAt(r.nextInt(signs.length()));
            switch (r.nextInt(4)) {
                case 0: t.setCharAt(at, sign); break;
                case 1: t.insert(at, sign); break;
                case 2: t.deleteCharAt(at); break;
                default: t.setLength(at); break;
            }
        }
        return t.toString();
    }

    private static String figures(Random r, int v) {
        return v < 10 && r.nextInt(8) == 0 ? "0" + v : "" + v;
    }

    /** A fraction that cannot overflow. */
    private record Frac(BigInteger up, BigInteger low) implements Comparable<Frac> {
        static final Frac ZERO = of(0, 1);

        static Frac of(long up, long low) {
            return make(BigInteger.valueOf(up), BigInteger.valueOf(low));
        }

        static Frac make(BigInteger up, BigInteger low) {
            BigInteger g = up.gcd(low);
            return new Frac(up.divide(g), low.divide(g));
        }

        Frac plus(Frac o) {
            return make(up.multiply(o.low).add(o.up.multiply(low)), low.multiply(o.low));
        }

        Frac minus(Frac o) {
            return plus(new Frac(o.up.negate(), o.low));
        }

        Frac times(long a, long b) {
            return make(up.multiply(BigInteger.valueOf(a)), low.multiply(BigInteger.valueOf(b)));
        }

        @Override public int compareTo(Frac o) {
            return up.multiply(o.low).compareTo(o.up.multiply(low));
        }

        long side(int what) {
            return what == 0 ? up.longValueExact() : low.longValueExact();
        }
    }

    /** What buyers do by given hours: what each shop is brought, and how many buy. */
    private static final class Flow {
        final Frac[] brought = new Frac[5];
        Frac served = Frac.ZERO;
    }

    /** The document's words, one by one, without a thought of speed. */
    private static final class Plain {
        static final int[] TOP = {16, 3, 3, 999, 16, 8, 8, 8};
        final StringBuilder text = new StringBuilder();
        final List<Integer> sizes = new ArrayList<>();
        final List<Integer> costs = new ArrayList<>();
        final List<int[]> sorts = new ArrayList<>();
        int fault = -1;
        final int[] set = {0, 3, 0, 0, 16, 0, 0, 0};
        final int[] hours = new int[5];
        final int[] turns = new int[6];
        final int[][] sheets = new int[4][];
        final int[] forms = new int[4];
        int finding = 0;
        final Map<String, Flow> flows = new HashMap<>();
        /* Stand in for the FINE and the COSTS while another one is tried; -1 and null: none does. */
        int fineNow = -1;
        int[] costNow = null;

        int type(int b) {
            if (b < 0 || b > 255) return -2;
            if (text.length() == 150) return -4;
            text.append((char) b);
            understand();
            return text.length();
        }

        int wipe() {
            int n = text.length();
            text.setLength(0);
            understand();
            return n;
        }

        /* Walks over the text by a list of what is expected next. */
        void understand() {
            flows.clear();
            sizes.clear();
            costs.clear();
            sorts.clear();
            fault = walk();
            if (fault != -1) {
                sizes.clear();
                costs.clear();
                sorts.clear();
            }
        }

        private int walk() {
            String t = text.toString();
            if (t.isEmpty()) return -1;
            int at = 0;
            while (true) {
                if (at >= t.length()) return t.length();
                char kind = t.charAt(at);
                if (kind != 's' && kind != 'b') return at;
                if (kind == 's' && sizes.size() == 5) return at;
                if (kind == 'b' && sorts.size() == 6) return at;
                at++;
                String[] asks = kind == 's' ? new String[] {"f", "0 99"} : new String[] {"f", "1 99", "l", "0 16", "0 16", "1 99"};
                int[] got = new int[asks.length];
                for (int k = 0; k < asks.length; k++) {
                    if (k > 0) {
                        if (at >= t.length() || t.charAt(at) != ',') return at;
                        at++;
                    }
                    if (at >= t.length()) return at;
                    char c = t.charAt(at);
                    if (asks[k].equals("f")) {
                        if ("123".indexOf(c) < 0) return at;
                        got[k] = c - '0';
                        at++;
                    } else if (asks[k].equals("l")) {
                        if (c != '-' && (c < '0' || c >= '0' + sizes.size())) return at;
                        got[k] = c == '-' ? -1 : c - '0';
                        at++;
                    } else {
                        int end = at;
                        while (end < t.length() && end < at + 2 && t.charAt(end) >= '0' && t.charAt(end) <= '9') end++;
                        if (end == at) return at;
                        int v = Integer.parseInt(t.substring(at, end));
                        String[] bounds = asks[k].split(" ");
                        if (v < Integer.parseInt(bounds[0]) || v > Integer.parseInt(bounds[1])) return at;
                        got[k] = v;
                        at = end;
                    }
                }
                if (kind == 's') {
                    sizes.add(got[0]);
                    costs.add(got[1]);
                } else {
                    sorts.add(got);
                }
                if (at == t.length()) return -1;
                if (t.charAt(at) != ';') return at;
                at++;
            }
        }

        int fault() { return fault; }

        boolean there(int shop) { return shop >= 0 && shop < sizes.size(); }

        boolean bound(int shop) { return sizes.get(shop) > set[2]; }

        int shop(int shop, int what) {
            if (!there(shop) || what < 0 || what > 2) return -2;
            return what == 0 ? sizes.get(shop) : what == 1 ? costs.get(shop) : bound(shop) ? 1 : 0;
        }

        int sort(int sort, int what) {
            if (sort < 0 || sort >= sorts.size() || what < 0 || what > 5) return -2;
            return sorts.get(sort)[what];
        }

        int set(int what, int v) {
            if (what < 0 || what > 7 || v < 0 || v > TOP[what]) return -2;
            int was = set[what];
            set[what] = v;
            flows.clear();
            return was;
        }

        int hours(int shop, int v) {
            if (shop < 0 || shop > 4 || v < 0 || v > 3) return -2;
            int was = hours[shop];
            hours[shop] = v;
            return was;
        }

        int find(int n) { finding = n; return -10 - n; }

        int read(int s) {
            if (s < 0 || s > 3) return -2;
            if (sheets[s] == null) return find(1);
            int n = 0;
            while (n < 5 && n < sheets[s].length && sheets[s][n] >= 0 && sheets[s][n] <= 3) {
                hours[n] = sheets[s][n];
                n++;
            }
            return n;
        }

        int open(int hour) {
            if (hour < 1 || hour > 3) return -2;
            int bits = 0;
            for (int i = 0; i < sizes.size(); i++) if (hours[i] >= hour) bits |= 1 << i;
            return bits;
        }

        Flow flow(int[] h, int[] habit) {
            StringBuilder key = new StringBuilder();
            for (int i = 0; i < sizes.size(); i++) key.append(h[i]);
            for (int v : habit) key.append(',').append(v);
            return flows.computeIfAbsent(key.toString(), k -> makeFlow(h, habit));
        }

        private Flow makeFlow(int[] h, int[] habit) {
            Flow f = new Flow();
            for (int i = 0; i < 5; i++) f.brought[i] = Frac.ZERO;
            if (sizes.isEmpty()) return f;
            for (int[] s : sorts) {
                List<Integer> open = new ArrayList<>();
                List<Integer> every = new ArrayList<>();
                for (int i = 0; i < sizes.size(); i++) {
                    every.add(i);
                    if (h[i] >= s[0]) open.add(i);
                }
                int draw = open.isEmpty() ? 16 : 16 + set[0] * (open.size() - 1);
                Frac crowd = Frac.of(s[1], 1).times(draw, 16).times(8 + habit[s[0] - 1], 8);
                if (s[2] >= 0 && open.contains(s[2])) {
                    buy(f, List.of(s[2]), crowd, s[5]);
                    continue;
                }
                Frac others = crowd;
                if (!open.isEmpty()) {
                    Frac go = crowd.times(s[3], 16);
                    buy(f, open, go, s[5]);
                    others = crowd.minus(go);
                }
                buy(f, s[2] >= 0 ? List.of(s[2]) : every, others.times(s[4], 16), s[5]);
            }
            return f;
        }

        private void buy(Flow f, List<Integer> among, Frac who, int worth) {
            int total = 0;
            for (int i : among) total += sizes.get(i);
            for (int i : among) f.brought[i] = f.brought[i].plus(who.times(sizes.get(i), total).times(worth, 1));
            f.served = f.served.plus(who);
        }

        int[] habits() { return new int[] {set[5], set[6], set[7]}; }

        Frac earn(int shop, int[] h, int[] habit) {
            int cost = costNow != null ? costNow[shop] : costs.get(shop);
            int fine = fineNow >= 0 ? fineNow : set[3];
            Frac e = flow(h, habit).brought[shop].minus(Frac.of((long) cost * h[shop], 1));
            if (bound(shop) && h[shop] > set[1]) e = e.minus(Frac.of((long) fine * set[4], 16));
            return e;
        }

        Frac together(int[] h) {
            Frac sum = Frac.ZERO;
            for (int i = 0; i < sizes.size(); i++) sum = sum.plus(earn(i, h, habits()));
            return sum;
        }

        static long no(int x) { return Long.MIN_VALUE + x; }

        long earns(int shop, int what) {
            if (!there(shop) || what < 0 || what > 1) return no(2);
            return earn(shop, hours, habits()).side(what);
        }

        long all(int which, int what) {
            if (which < 0 || which > 1 || what < 0 || what > 1) return no(2);
            return (which == 0 ? together(hours) : flow(hours, habits()).served).side(what);
        }

        Frac earnBy(int shop, int[] h, int own, int[] habit) {
            int[] k = h.clone();
            k[shop] = own;
            return earn(shop, k, habit);
        }

        int answerOf(int shop, int[] h, int[] habit, int top) {
            int best = 0;
            for (int v = 0; v <= top; v++) {
                if (earnBy(shop, h, v, habit).compareTo(earnBy(shop, h, best, habit)) > 0) best = v;
            }
            return best;
        }

        int answer(int shop) { return there(shop) ? answerOf(shop, hours, habits(), 3) : -2; }

        /* Null for a ring; the last item is how many rounds there were. */
        int[] runDown(int[] from, int[] habit, int held, int[] tops) {
            int[] h = from.clone();
            int rounds = 0;
            while (true) {
                boolean some = false;
                for (int i = 0; i < sizes.size(); i++) {
                    if (i == held) continue;
                    int a = answerOf(i, h, habit, tops[i]);
                    if (earnBy(i, h, a, habit).compareTo(earn(i, h, habit)) > 0) {
                        h[i] = a;
                        some = true;
                    }
                }
                if (!some) {
                    return new int[] {h[0], h[1], h[2], h[3], h[4], rounds};
                }
                rounds++;
                if (rounds == 40) return null;
            }
        }

        static final int[] FREE = {3, 3, 3, 3, 3};

        int rest(int shop) {
            if (shop != -1 && !there(shop)) return -2;
            int[] end = runDown(hours, habits(), -1, FREE);
            return end == null ? -3 : shop == -1 ? end[5] : end[shop];
        }

        int gainer(int[] h, int[] habit) {
            for (int i = 0; i < sizes.size(); i++) {
                for (int v = 0; v <= 3; v++) {
                    if (earnBy(i, h, v, habit).compareTo(earn(i, h, habit)) > 0) return i;
                }
            }
            return -1;
        }

        List<int[]> everyHours() {
            List<int[]> list = new ArrayList<>();
            list.add(new int[5]);
            for (int i = 0; i < sizes.size(); i++) {
                List<int[]> longer = new ArrayList<>();
                for (int[] h : list) {
                    for (int v = 0; v <= 3; v++) {
                        int[] k = h.clone();
                        k[i] = v;
                        longer.add(k);
                    }
                }
                list = longer;
            }
            return list;
        }

        int still(int i, int shop) {
            boolean asksMany = i == -1 && shop == -1;
            if (!asksMany && (i < 0 || !there(shop))) return -2;
            int n = 0;
            for (int[] h : everyHours()) {
                if (gainer(h, habits()) == -1) {
                    if (!asksMany && n == i) return h[shop];
                    n++;
                }
            }
            return asksMany ? n : -1;
        }

        int[] bestOf(int which) {
            int[] best = null;
            Frac most = null;
            for (int[] h : everyHours()) {
                Frac f = which == 0 ? together(h) : flow(h, habits()).served;
                if (most == null || f.compareTo(most) > 0) {
                    most = f;
                    best = h;
                }
            }
            return best;
        }

        int best(int which, int shop) {
            if (which < 0 || which > 1 || !there(shop)) return -2;
            return bestOf(which)[shop];
        }

        long loss(int what) {
            if (what < 0 || what > 1) return no(2);
            return together(bestOf(0)).minus(together(hours)).side(what);
        }

        int leastFine() {
            int[] h = hours.clone();
            for (int i = 0; i < sizes.size(); i++) if (bound(i)) h[i] = Math.min(h[i], set[1]);
            try {
                for (fineNow = 0; fineNow <= 999; fineNow++) {
                    boolean held = true;
                    for (int i = 0; i < sizes.size() && held; i++) {
                        for (int v = set[1] + 1; v <= 3 && bound(i); v++) {
                            if (earnBy(i, h, v, habits()).compareTo(earn(i, h, habits())) > 0) held = false;
                        }
                    }
                    if (held) return fineNow;
                }
                return -1;
            } finally {
                fineNow = -1;
            }
        }

        long bestCap(int what) {
            if (what < 0 || what > 2) return no(2);
            int best = -1;
            Frac most = null;
            fineNow = 0;
            for (int cap = 0; cap <= 3; cap++) {
                int[] tops = FREE.clone();
                for (int i = 0; i < sizes.size(); i++) if (bound(i)) tops[i] = cap;
                int[] end = runDown(new int[5], habits(), -1, tops);
                if (end != null && (most == null || together(end).compareTo(most) > 0)) {
                    most = together(end);
                    best = cap;
                }
            }
            fineNow = -1;
            return what == 2 ? best : most == null ? no(3) : most.side(what);
        }

        int edge(int shop) {
            if (!there(shop)) return -2;
            costNow = new int[5];
            int found = -1;
            for (int c = 99; c >= 0; c--) {
                costNow[shop] = c;
                if (answerOf(shop, hours, habits(), 3) == 0) found = c;
            }
            costNow = null;
            return found;
        }

        long always(int shop, int what) {
            if (!there(shop) || what < 0 || what > 1) return no(2);
            int[] from = hours.clone();
            from[shop] = 3;
            int[] a = runDown(from, habits(), shop, FREE);
            int[] b = runDown(hours, habits(), -1, FREE);
            if (a == null || b == null) return no(3);
            return earn(shop, a, habits()).minus(earn(shop, b, habits())).side(what);
        }

        int turn(int evening, int shops) {
            if (evening < 0 || evening > 5 || shops < 0 || shops > 31) return -2;
            int was = turns[evening];
            turns[evening] = shops;
            return was;
        }

        int[] hoursOn(int evening) {
            int[] h = new int[5];
            for (int i = 0; i < 5; i++) h[i] = (turns[evening] & 1 << i) != 0 ? 3 : 0;
            return h;
        }

        int keeps(int what) {
            if (what < 0 || what > 1) return -2;
            for (int e = 0; e < 6; e++) {
                int g = gainer(hoursOn(e), habits());
                if (g != -1) return what == 0 ? e : g;
            }
            return -1;
        }

        long week(int shop, int what) {
            if (!there(shop) || what < 0 || what > 1) return no(2);
            Frac sum = Frac.ZERO;
            for (int e = 0; e < 6; e++) sum = sum.plus(earn(shop, hoursOn(e), habits()));
            return sum.side(what);
        }

        void pass(int[] h, int[] habit) {
            int[] end = runDown(h, habit, -1, FREE);
            if (end != null) System.arraycopy(end, 0, h, 0, 5);
            for (int k = 1; k <= 3; k++) {
                boolean some = false;
                for (int i = 0; i < sizes.size(); i++) some |= h[i] >= k;
                habit[k - 1] += some ? 1 : -1;
                if (habit[k - 1] > 8) habit[k - 1] = 8;
                if (habit[k - 1] < 0) habit[k - 1] = 0;
            }
        }

        int weeks(int t, int which) {
            if (t < 0 || t > 50 || which < 0 || which > 7) return -2;
            int[] h = hours.clone();
            int[] habit = habits();
            for (int i = 0; i < t; i++) pass(h, habit);
            return which < 5 ? h[which] : habit[which - 5];
        }

        int back() {
            int[] h = hours.clone();
            int[] habit = habits();
            for (int t = 0; t <= 50; t++) {
                if (gainer(new int[5], habit) != -1) return t;
                pass(h, habit);
            }
            return -1;
        }

        boolean noSheet(int s) { return s < 0 || s > 3; }

        int sheet(int s, int form, int n) {
            if (noSheet(s) || form < 0 || form > 2 || n > 60) return -2;
            if (n < 0) return find(5);
            sheets[s] = new int[n];
            forms[s] = form;
            return n;
        }

        int lose(int s) {
            if (noSheet(s)) return -2;
            if (sheets[s] == null) return find(1);
            int n = sheets[s].length;
            sheets[s] = null;
            return n;
        }

        int touch(int s, int form, int i) {
            if (noSheet(s) || form < 0 || form > 2) return -2;
            if (sheets[s] == null) return find(1);
            if (forms[s] != form) return find(3);
            if (i < 0 || i >= sheets[s].length) return find(2);
            return 0;
        }

        static int cut(int form, int v) { return form == 0 ? (byte) v : form == 1 ? (short) v : v; }

        int lay(int s, int form, int i, int v) {
            int no = touch(s, form, i);
            if (no != 0) return no;
            sheets[s][i] = cut(form, v);
            return 1;
        }

        int get(int s, int form, int i) {
            return touch(s, form, i) != 0 ? Integer.MIN_VALUE : sheets[s][i];
        }

        int copy(int s, int i, int t, int j, int n) {
            if (noSheet(s) || noSheet(t)) return -2;
            if (sheets[s] == null || sheets[t] == null) return find(1);
            if (forms[s] != forms[t]) return find(4);
            if (i < 0 || j < 0 || n < 0 || n > sheets[s].length - i || n > sheets[t].length - j) return find(2);
            int[] were = sheets[s].clone();
            for (int k = 0; k < n; k++) sheets[t][j + k] = were[i + k];
            return 1;
        }

        int write(int s) {
            if (noSheet(s)) return -2;
            if (sheets[s] == null) return find(1);
            int n = Math.min(sheets[s].length, sizes.size());
            for (int i = 0; i < n; i++) sheets[s][i] = cut(forms[s], answer(i));
            return n;
        }

        int count(int what) {
            int sum = 0;
            switch (what) {
                case 0: return sizes.size();
                case 1: return sorts.size();
                case 2: return text.length();
                case 3: for (int i = 0; i < sizes.size(); i++) sum += hours[i]; return sum;
                case 4: for (int t : turns) sum += t; return sum;
                case 5: return set[5] + set[6] + set[7];
                case 6: return set[1];
                case 7: for (int[] s : sorts) sum += s[1]; return sum;
                case 8: return finding;
                default: return -2;
            }
        }

        long digest() {
            List<Long> told = new ArrayList<>();
            for (int i = 0; i <= 7; i++) told.add((long) count(i));
            told.add((long) fault());
            for (int i = 0; i < sizes.size(); i++) {
                told.add(earns(i, 0));
                told.add(earns(i, 1));
                told.add((long) answer(i));
                told.add((long) rest(i));
                told.add((long) best(0, i));
                told.add((long) best(1, i));
            }
            for (int i = 0; i < 2; i++) {
                told.add(all(i, 0));
                told.add(all(i, 1));
            }
            told.add((long) rest(-1));
            told.add((long) still(-1, -1));
            told.add((long) leastFine());
            told.add((long) keeps(0));
            told.add((long) keeps(1));
            for (int i = 0; i <= 7; i++) told.add((long) weeks(5, i));
            told.add((long) back());
            long h = 17;
            for (long v : told) h = 31 * h + v;
            return h;
        }
    }
}
