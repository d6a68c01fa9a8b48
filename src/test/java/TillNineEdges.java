import java.util.Arrays;
import java.util.TreeSet;

/**
 * For each sentence of the document that names a bound: the last value that may be and the first that may not.
 * Each test names its promise and the document's own words.
 */
public final class TillNineEdges {
    private static final int NONE = -1, BAD = -2, NOT = -3, FULL = -4;
    private static final int NULL = -11, INDEX = -12, CAST = -13, STORE = -14, SIZE = -15;
    private static final long LONG_BAD = Long.MIN_VALUE + 2, LONG_NOT = Long.MIN_VALUE + 3;
    private static final int LEAST = Integer.MIN_VALUE, MOST = Integer.MAX_VALUE;

    private static final String FIVE_SHOPS = "s1,1;s1,1;s1,1;s1,1;s1,1";
    private static final String SIX_SORTS = "b1,1,-,1,1,1;b1,1,-,1,1,1;b1,1,-,1,1,1;b1,1,-,1,1,1;b1,1,-,1,1,1;b1,1,-,1,1,1";
    /* Two shops that chase one another for ever; what they earn is worked out in TillNinePromises. */
    private static final String CHASE = "s3,9;s1,8;b1,9,-,8,9,3";

    private static int wrong = 0;
    private static int looked = 0;
    private static int promise = 0;
    private static String words = "";
    private static final TreeSet<Integer> PROMISES = new TreeSet<>();

    private static void sentence(int number, String text) {
        promise = number;
        words = text;
        PROMISES.add(number);
    }

    private static void due(String what, long got, long want) {
        looked++;
        if (got != want) {
            wrong++;
            System.out.println("promise " + promise + " (" + words + "): " + what + " answered " + got + ", due is " + want);
        }
    }

    private static void due(String what, long gotAbove, long gotBelow, long above, long below) {
        due(what + ", above", gotAbove, above);
        due(what + ", below", gotBelow, below);
    }

    private static void type(TillNine x, String text) {
        for (int i = 0; i < text.length(); i++) {
            x.type(text.charAt(i));
        }
    }

    private static TillNine street(String text) {
        TillNine x = new TillNine();
        type(x, text);
        return x;
    }

    private static void hours(TillNine x, int... hours) {
        for (int shop = 0; shop < hours.length; shop++) {
            x.hours(shop, hours[shop]);
        }
    }

    private static void earns(String what, TillNine x, int shop, long above, long below) {
        due(what, x.earns(shop, 0), x.earns(shop, 1), above, below);
    }

    private static void fault(String text, int place) {
        due("the fault of " + text, street(text).fault(), place);
    }

    public static void main(String[] args) {
        newObject();
        typeAndWipe();
        faultByPlace();
        faultByNumber();
        faultByCount();
        faultIsEmpty();
        shop();
        sort();
        set();
        hours();
        read();
        open();
        buyersByLight();
        buyersByHabit();
        buyersByLikesGoBack();
        fines();
        fractions();
        all();
        answer();
        rest();
        still();
        best();
        loss();
        leastFine();
        leastFineByHours();
        bestCap();
        edge();
        always();
        turn();
        keeps();
        week();
        weeks();
        back();
        sheet();
        lose();
        lay();
        get();
        copy();
        write();
        count();
        digest();
        callsInARow();
        Refusals.all();
        for (int i = 1; i <= 34; i++) {
            sentence(i, "each promise has a test");
            due("tests", PROMISES.contains(i) ? 1 : 0, 1);
        }
        System.out.println(looked + " answers looked at, " + wrong + " not as due");
        if (wrong != 0) {
            System.exit(1);
        }
    }

    // ---- streets

    private static void newObject() {
        sentence(1, "An empty STREET");
        TillNine x = new TillNine();
        for (int what = 0; what <= 2; what++) {
            due("count(" + what + ")", x.count(what), 0);
        }
        due("fault()", x.fault(), NONE);
        due("shop(0, 0)", x.shop(0, 0), BAD);
        due("sort(0, 0)", x.sort(0, 0), BAD);
        due("wipe()", x.wipe(), 0);
        sentence(1, "all SHEETS are LOST");
        for (int s = 0; s <= 3; s++) {
            due("lose(" + s + ")", new TillNine().lose(s), NULL);
            due("get(" + s + ", 0, 0)", new TillNine().get(s, 0, 0), LEAST);
        }
        sentence(1, "0 before any");
        due("count(8)", new TillNine().count(8), 0);
        sentence(1, "0 (six o'clock, at first)");
        for (int shop = 0; shop < 5; shop++) {
            due("hours(" + shop + ", 3)", x.hours(shop, 3), 0);
        }
        sentence(1, "LIGHT (0 to 16; 0), CAP (0 to 3; 3), SMALL (0 to 3; 0), FINE (0 to 999; 0), SEEN (0 to 16; 16). HABIT of an HOUR (0 to 8; 0 at first)");
        int[] first = {0, 3, 0, 0, 16, 0, 0, 0};
        for (int what = 0; what < 8; what++) {
            due("set(" + what + ", 2)", x.set(what, 2), first[what]);
        }
        sentence(1, "which were (0 at first)");
        for (int evening = 0; evening < 6; evening++) {
            due("turn(" + evening + ", 9)", x.turn(evening, 9), 0);
        }
    }

    private static void typeAndWipe() {
        sentence(2, "A byte (0 to 255)");
        TillNine x = new TillNine();
        due("type(-1)", x.type(-1), BAD);
        due("type(256)", x.type(256), BAD);
        due("type(least)", x.type(LEAST), BAD);
        due("type(most)", x.type(MOST), BAD);
        due("type(0)", x.type(0), 1);
        due("type(255)", x.type(255), 2);
        sentence(2, "A STREET is a text of up to 150 bytes");
        for (int i = 3; i <= 150; i++) {
            due("type('s'), the " + i + "th", x.type('s'), i);
        }
        due("the 151st", x.type('s'), FULL);
        due("the 151st again", x.type(';'), FULL);
        due("count(2)", x.count(2), 150);
        sentence(2, "the first that fits, in the order told at each act");
        due("type(256) when it is full", x.type(256), BAD);
        due("type(-1) when it is full", x.type(-1), BAD);
        sentence(3, "how many bytes it had");
        due("wipe() of 150", x.wipe(), 150);
        due("wipe() of none", x.wipe(), 0);
        due("type behind it", x.type('s'), 1);
        due("wipe() of one", x.wipe(), 1);
        sentence(3, "The STREET is empty");
        TillNine y = street(CHASE);
        y.wipe();
        for (int what : new int[] {0, 1, 2, 7}) {
            due("count(" + what + ")", y.count(what), 0);
        }
        due("fault()", y.fault(), NONE);
        due("shop(0, 0)", y.shop(0, 0), BAD);
        due("sort(0, 0)", y.sort(0, 0), BAD);
        TillNine z = street("s1,1;");
        z.wipe();
        due("fault() of it", z.fault(), NONE);
        type(z, "s2,3");
        due("another street: shops", z.count(0), 1);
        due("another street: size", z.shop(0, 0), 2);
        TillNine longer = street("s1,55;s1,77;b1,9,-,16,16,9");
        hours(longer, 3, 3);
        due("served, before", longer.all(1, 0), 9);
        due("open, before", longer.open(3), 3);
        longer.wipe();
        due("served", longer.all(1, 0), longer.all(1, 1), 0, 1);
        due("together", longer.all(0, 0), longer.all(0, 1), 0, 1);
        due("open", longer.open(3), 0);
        type(longer, "s1,5");
        due("nothing is left of the other text", longer.shop(0, 1), 5);
        due("nothing is left of the other text", longer.fault(), NONE);
        due("open, one shop", longer.open(3), 1);
    }

    private static void faultByPlace() {
        sentence(4, "an empty text is well: nothing");
        fault("", NONE);
        sentence(4, "of one that is not ended, as behind a ;, its end");
        String text = "s1,5;b2,30,0,8,16,9";
        for (int n = 0; n <= text.length(); n++) {
            fault(text.substring(0, n), n == 0 || n == 4 || n == 19 ? NONE : n);
        }
        fault(text + ";", 20);
        fault(FIVE_SHOPS + ";", 25);
        fault(SIX_SORTS + ";", 78);
        sentence(4, "the place of the first byte with which it cannot go on");
        for (int at = 0; at < text.length(); at++) {
            for (char c : new char[] {0, ' ', '/', ':', '.', 'S', 'B', 'x', 128, 255}) {
                fault(text.substring(0, at) + c + text.substring(at + 1), at);
            }
        }
        for (int at = 0; at < text.length(); at++) {
            // an s may begin the text, and the part behind the ;
            boolean may = at == 0;
            fault(text.substring(0, at) + "s" + text.substring(at + 1), may ? NONE : at == 5 ? 10 : at);
        }
        sentence(4, "parts with ; between them");
        fault(";", 0);
        fault(";s1,1", 0);
        fault("s1,1;;s1,1", 5);
        fault("s1,1,s1,1", 4);
        fault("s1,1s1,1", 4);
        fault("b1,1,-,1,1,1b1,1,-,1,1,1", 12);
        sentence(4, "s, a figure, a comma, a number");
        fault("s11,1", 2);
        fault("s1;1", 2);
        fault("s,1", 1);
        fault("1,1", 0);
        sentence(4, "b, a figure, then five times a comma and what follows");
        fault("b11,1,-,1,1,1", 2);
        fault("b1,1,-,1,1", 10);
        fault("b1,1,-,1,1;", 10);
        fault("b1,1,-,1,1,1", NONE);
        fault("b1,1,-,1,1,1,", 12);
        fault("b1,1,-,1,1,1,1", 12);
    }

    /* A number in the midst of a text: what it is at, and those that may be and may not. */
    private static void number(String ahead, String behind, String[] may, String[] mayNot) {
        for (String v : may) {
            fault(ahead + v + behind, NONE);
        }
        for (String v : mayNot) {
            fault(ahead + v + behind, ahead.length());
        }
        sentence(4, "Numbers have one or two figures");
        fault(ahead + behind, ahead.length());
        fault(ahead + may[may.length - 1] + "0" + behind, ahead.length() + 2);
        fault(ahead + "01" + behind, NONE);
        fault(ahead + "016" + behind, ahead.length() + 2);
        fault(ahead + "-1" + behind, ahead.length());
        fault(ahead + "+1" + behind, ahead.length());
    }

    private static void faultByNumber() {
        sentence(4, "SIZE (1 to 3)");
        int[] places = {1, NONE, NONE, NONE, 1, 1, 1, 1, 1, 1};
        for (int v = 0; v <= 9; v++) {
            fault("s" + v + ",1", places[v]);
        }
        sentence(4, "HOUR (1 to 3)");
        for (int v = 0; v <= 9; v++) {
            fault("b" + v + ",1,-,1,1,1", places[v]);
        }
        sentence(4, "COST of an hour (0 to 99)");
        number("s1,", "", new String[] {"0", "00", "9", "10", "99"}, new String[] {"-"});
        sentence(4, "MANY (1 to 99)");
        number("b1,", ",-,1,1,1", new String[] {"1", "9", "10", "99"}, new String[] {"0", "00"});
        sentence(4, "GO (0 to 16)");
        number("b1,1,-,", ",1,1", new String[] {"0", "00", "9", "10", "16"}, new String[] {"17", "20", "99", "-"});
        sentence(4, "BACK (0 to 16)");
        number("b1,1,-,1,", ",1", new String[] {"0", "00", "9", "10", "16"}, new String[] {"17", "20", "99", "-"});
        sentence(4, "WORTH (1 to 99)");
        number("b1,1,-,1,1,", "", new String[] {"1", "9", "10", "99"}, new String[] {"0", "00"});
        sentence(4, "LIKES (the figure of a SHOP that was told ahead; -: none)");
        fault("b1,1,-,1,1,1", NONE);
        fault("b1,1,0,1,1,1", 5);
        fault("b1,1,0,1,1,1;s1,1", 5);
        fault("s1,1;b1,1,0,1,1,1", NONE);
        fault("s1,1;b1,1,1,1,1,1", 10);
        fault("s1,1;b1,1,1,1,1,1;s1,1", 10);
        fault("s1,1;b1,1,0,1,1,1;s1,1;b1,1,1,1,1,1", NONE);
        fault(FIVE_SHOPS + ";b1,1,4,1,1,1", NONE);
        for (char c : new char[] {'5', '6', '9', ':', '/', ','}) {
            fault(FIVE_SHOPS + ";b1,1," + c + ",1,1,1", 30);
        }
        fault("s1,1;b1,1,00,1,1,1", 11);
        fault("s1,1;b1,1,-0,1,1,1", 11);
        fault("s1,1;b1,1,--,1,1,1", 11);
    }

    private static void faultByCount() {
        sentence(4, "a SHOP (5 at most, 0 on)");
        fault(FIVE_SHOPS, NONE);
        sentence(4, "of the s, the b that is one too many");
        fault(FIVE_SHOPS + ";s1,1", 25);
        fault(FIVE_SHOPS + ";s", 25);
        fault(FIVE_SHOPS + ";s9", 25);
        fault(FIVE_SHOPS + ";b1,1,-,1,1,1", NONE);
        fault("s1,1;b1,1,-,1,1,1;s1,1;s1,1;s1,1;s1,1;s1,1", 38);
        fault(SIX_SORTS + ";b1,1,-,1,1,1", 78);
        fault(SIX_SORTS + ";b", 78);
        sentence(4, "a SORT of buyers (6 at most)");
        fault(SIX_SORTS, NONE);
        fault(SIX_SORTS + ";s1,1", NONE);
        fault(SIX_SORTS + ";" + FIVE_SHOPS, NONE);
        fault(SIX_SORTS + ";" + FIVE_SHOPS + ";s1,1", 103);
        // the longest street that is well
        String most = "s3,99;s3,99;s3,99;s3,99;s3,99;b3,99,-,16,16,99;b3,99,0,16,16,99;b3,99,1,16,16,99;b3,99,2,16,16,99;b3,99,3,16,16,99;b3,99,4,16,16,99";
        TillNine x = street(most);
        due("bytes", x.count(2), 131);
        due("fault", x.fault(), NONE);
        due("shops", x.count(0), 5);
        due("sorts", x.count(1), 6);
        due("the last one's worth", x.sort(5, 5), 99);
        x.type(';');
        due("fault behind a ;", x.fault(), 132);
        x.type('b');
        due("fault, one too many", x.fault(), 132);
    }

    private static void faultIsEmpty() {
        sentence(4, "With a FAULT it is as if it was empty");
        TillNine x = street("s3,9;s1,8;b1,9,-,8,9,3;");
        hours(x, 3, 2);
        due("fault()", x.fault(), 23);
        for (int what : new int[] {0, 1, 3, 7}) {
            due("count(" + what + ")", x.count(what), 0);
        }
        due("shop(0, 0)", x.shop(0, 0), BAD);
        due("sort(0, 0)", x.sort(0, 0), BAD);
        due("open(1)", x.open(1), 0);
        due("earns(0, 0)", x.earns(0, 0), LONG_BAD);
        due("all(0)", x.all(0, 0), x.all(0, 1), 0, 1);
        due("all(1)", x.all(1, 0), x.all(1, 1), 0, 1);
        due("answer(0)", x.answer(0), BAD);
        due("rest(0)", x.rest(0), BAD);
        due("rest(NONE)", x.rest(NONE), 0);
        due("still(NONE, NONE)", x.still(NONE, NONE), 1);
        due("still(0, 0)", x.still(0, 0), BAD);
        due("best(0, 0)", x.best(0, 0), BAD);
        due("loss", x.loss(0), x.loss(1), 0, 1);
        due("leastFine()", x.leastFine(), 0);
        due("bestCap(2)", x.bestCap(2), 0);
        due("bestCap", x.bestCap(0), x.bestCap(1), 0, 1);
        due("edge(0)", x.edge(0), BAD);
        due("always(0, 0)", x.always(0, 0), LONG_BAD);
        due("keeps(0)", x.keeps(0), NONE);
        due("week(0, 0)", x.week(0, 0), LONG_BAD);
        due("back()", x.back(), NONE);
        x.sheet(0, 0, 2);
        due("write(0)", x.write(0), 0);
        sentence(4, "how many");
        due("type goes on counting", x.type('s'), 24);
        type(x, "2,4");
        due("when it is ended: fault()", x.fault(), NONE);
        due("when it is ended: shops", x.count(0), 3);
        due("when it is ended: sorts", x.count(1), 1);
        due("when it is ended: hours", x.count(3), 5);
    }

    private static void shop() {
        sentence(5, "a SHOP (5 at most, 0 on)");
        TillNine x = street("s1,0;s2,99;s3,7;s1,1;s2,50");
        int[][] told = {{1, 0}, {2, 99}, {3, 7}, {1, 1}, {2, 50}};
        for (int shop = 0; shop < 5; shop++) {
            due("size of " + shop, x.shop(shop, 0), told[shop][0]);
            due("cost of " + shop, x.shop(shop, 1), told[shop][1]);
        }
        for (int shop : new int[] {-1, 5, LEAST, MOST}) {
            due("shop(" + shop + ", 0)", x.shop(shop, 0), BAD);
        }
        due("of one shop the second", street("s1,1").shop(1, 0), BAD);
        sentence(5, "SIZE (0), COST (1), whether it is BOUND (2)");
        due("what -1", x.shop(0, -1), BAD);
        due("what 2", x.shop(0, 2), 1);
        due("what 3", x.shop(0, 3), BAD);
        sentence(5, "BOUND are SHOPS whose SIZE is above SMALL");
        for (int small = 0; small <= 3; small++) {
            x.set(2, small);
            for (int shop = 0; shop < 3; shop++) {
                due("size " + (shop + 1) + ", small " + small, x.shop(shop, 2), shop + 1 > small ? 1 : 0);
            }
        }
    }

    private static void sort() {
        sentence(6, "a SORT of buyers (6 at most)");
        TillNine x = street("s1,1;b1,1,-,0,0,1;b3,99,0,16,16,99;b2,50,-,8,4,7;b1,2,-,1,1,1;b1,3,-,1,1,1;b1,4,0,1,2,3");
        int[][] told = {{1, 1, NONE, 0, 0, 1}, {3, 99, 0, 16, 16, 99}, {2, 50, NONE, 8, 4, 7}, {1, 2, NONE, 1, 1, 1},
            {1, 3, NONE, 1, 1, 1}, {1, 4, 0, 1, 2, 3}};
        for (int sort = 0; sort < 6; sort++) {
            for (int what = 0; what < 6; what++) {
                due("sort(" + sort + ", " + what + ")", x.sort(sort, what), told[sort][what]);
            }
        }
        for (int sort : new int[] {-1, 6, LEAST, MOST}) {
            due("sort(" + sort + ", 0)", x.sort(sort, 0), BAD);
        }
        due("of one sort the second", street("b1,1,-,0,0,1").sort(1, 0), BAD);
        sentence(6, "HOUR (0), MANY (1), LIKES (2; NONE), GO (3), BACK (4), WORTH (5)");
        for (int what : new int[] {-1, 6, LEAST, MOST}) {
            due("sort(0, " + what + ")", x.sort(0, what), BAD);
        }
    }

    private static void set() {
        sentence(7, "LIGHT (0 to 16; 0), CAP (0 to 3; 3), SMALL (0 to 3; 0), FINE (0 to 999; 0), SEEN (0 to 16; 16)");
        int[] top = {16, 3, 3, 999, 16, 8, 8, 8};
        int[] first = {0, 3, 0, 0, 16, 0, 0, 0};
        TillNine x = new TillNine();
        for (int what = 0; what < 8; what++) {
            if (what == 5) {
                sentence(7, "HABIT of an HOUR (0 to 8; 0 at first)");
            }
            for (int v : new int[] {-1, top[what] + 1, LEAST, MOST}) {
                due("set(" + what + ", " + v + ")", x.set(what, v), BAD);
            }
            due("set(" + what + ", 0)", x.set(what, 0), first[what]);
            due("set(" + what + ", most)", x.set(what, top[what]), 0);
            due("set(" + what + ", most) again", x.set(what, top[what]), top[what]);
        }
        sentence(7, "HABIT of HOURS 1, 2, 3 (5, 6, 7)");
        for (int what : new int[] {-1, 8, LEAST, MOST}) {
            due("set(" + what + ", 0)", x.set(what, 0), BAD);
        }
        due("nothing changed: caps", x.count(6), 3);
        due("nothing changed: habits", x.count(5), 24);
    }

    private static void hours() {
        sentence(8, "HOURS of a SHOP (0 to 4, whether it is there or not)");
        TillNine x = street("s1,1");
        for (int shop = 0; shop <= 4; shop++) {
            due("hours(" + shop + ", 3)", x.hours(shop, 3), 0);
            due("hours(" + shop + ", 0)", x.hours(shop, 0), 3);
        }
        for (int shop : new int[] {-1, 5, LEAST, MOST}) {
            due("hours(" + shop + ", 0)", x.hours(shop, 0), BAD);
        }
        sentence(8, "0 (six o'clock, at first), 1, 2, 3 (nine)");
        x.hours(2, 1);
        for (int v : new int[] {-1, 4, LEAST, MOST}) {
            due("hours(2, " + v + ")", x.hours(2, v), BAD);
        }
        due("hours(2, 2)", x.hours(2, 2), 1);
        due("a shop that comes there has them", laterShop().count(3), 3);
    }

    private static TillNine laterShop() {
        TillNine x = street("s1,1");
        x.hours(1, 3);
        type(x, ";s1,1");
        return x;
    }

    private static void read() {
        sentence(9, "SHEETS 0 .. 3");
        for (int s : new int[] {-1, 4, LEAST, MOST}) {
            due("read(" + s + ")", new TillNine().read(s), BAD);
        }
        for (int s = 0; s <= 3; s++) {
            TillNine x = new TillNine();
            due("read(" + s + "), lost", x.read(s), NULL);
            x.sheet(s, 0, 1);
            due("read(" + s + ")", x.read(s), 1);
        }
        sentence(9, "5 at most");
        for (int n : new int[] {0, 1, 4, 5, 6, 60}) {
            TillNine x = new TillNine();
            hours(x, 3, 3, 3, 3, 3);
            x.sheet(1, 1, n);
            due("read of " + n, x.read(1), Math.min(n, 5));
            for (int shop = 0; shop < 5; shop++) {
                due("read of " + n + ", hours of " + shop, x.weeks(0, shop), shop < n ? 0 : 3);
            }
        }
        sentence(9, "item by item, as long as each may be");
        for (int form = 0; form <= 2; form++) {
            for (int at = 0; at < 6; at++) {
                for (int v : new int[] {-1, 0, 3, 4, 127, -128}) {
                    readOne(form, at, v);
                }
            }
        }
        TillNine x = new TillNine();
        x.sheet(0, 2, 2);
        x.lay(0, 2, 0, 259);
        due("an int whose lowest byte is 3", x.read(0), 0);
        x.lay(0, 2, 0, 65536);
        due("an int whose lowest short is 0", x.read(0), 0);
        x.lay(0, 2, 0, LEAST);
        due("the least int", x.read(0), 0);
    }

    private static void readOne(int form, int at, int v) {
        TillNine x = new TillNine();
        hours(x, 1, 1, 1, 1, 1);
        x.sheet(0, form, 6);
        for (int i = 0; i < 6; i++) {
            x.lay(0, form, i, i == at ? v : 2);
        }
        int many = v >= 0 && v <= 3 ? 5 : Math.min(at, 5);
        due("read with " + v + " at " + at, x.read(0), many);
        for (int shop = 0; shop < 5; shop++) {
            due("hours of " + shop + " with " + v + " at " + at, x.weeks(0, shop), shop >= many ? 1 : shop == at ? v : 2);
        }
    }

    private static void open() {
        sentence(10, "SHOPS that are OPEN in an HOUR (1 to 3), as bits");
        TillNine x = street("s1,1;s1,1;s1,1;s1,1");
        for (int hour : new int[] {0, 4, -1, LEAST, MOST}) {
            due("open(" + hour + ")", x.open(hour), BAD);
        }
        sentence(10, "in HOUR 1 .. 3 those are OPEN whose HOURS are as much or more");
        hours(x, 0, 1, 2, 3, 3);
        due("open(1)", x.open(1), 14);
        due("open(2)", x.open(2), 12);
        due("open(3)", x.open(3), 8);
        type(x, ";s1,1");
        due("open(3), the fifth is there", x.open(3), 24);
        hours(x, 0, 0, 0, 0, 0);
        due("open(1), none", x.open(1), 0);
    }

    // ---- by hours as they are

    private static void buyersByLight() {
        sentence(11, "16, and LIGHT for each SHOP that is OPEN in its HOUR but the first such; 16, if none is");
        for (int light : new int[] {0, 1, 15, 16}) {
            TillNine x = street("s1,0;s1,0;s1,0;s1,0;s1,0;b2,16,4,0,16,1");
            x.set(0, light);
            earns("none is, light " + light, x, 4, 16, 1);
            hours(x, 1, 1, 1, 1, 1);
            earns("only in another hour, light " + light, x, 4, 16, 1);
            x.hours(4, 2);
            for (int many = 1; many <= 5; many++) {
                earns(many + " of them, light " + light, x, 4, 16 + light * (many - 1), 1);
                x.hours(many - 1, many % 2 == 0 ? 2 : 3);
            }
        }
        TillNine alone = street("s1,0;b2,16,0,0,16,1");
        alone.set(0, 16);
        hours(alone, 3, 3, 3, 3, 3);
        earns("those that are not there have no light", alone, 0, 16, 1);
    }

    private static void buyersByHabit() {
        sentence(11, "times (8 and HABIT of it) by 8");
        for (int hour = 1; hour <= 3; hour++) {
            TillNine x = street("s1,0;b" + hour + ",8,0,0,16,1");
            for (int other = 1; other <= 3; other++) {
                for (int habit : new int[] {0, 1, 7, 8}) {
                    x.set(4 + other, habit);
                    earns("habit " + habit + " of " + other + ", hour " + hour, x, 0, other == hour ? 8 + habit : 8, 1);
                }
                x.set(4 + other, 0);
            }
        }
    }

    private static void buyersByLikesGoBack() {
        sentence(11, "If the SHOP that they LIKE is OPEN then, all buy there");
        TillNine x = street("s1,0;s3,0;b2,16,0,16,16,1");
        hours(x, 2, 3);
        earns("liked", x, 0, 16, 1);
        earns("not liked", x, 1, 0, 1);
        hours(x, 1, 3);
        earns("liked, shut in that hour", x, 0, 0, 1);
        earns("not liked, the only one open", x, 1, 16, 1);
        sentence(11, "GO by 16 of them buy in those OPEN, parted by SIZES");
        for (int go : new int[] {0, 1, 15, 16}) {
            TillNine y = street("s3,0;s1,0;s2,0;b1,48,0," + go + ",0,1");
            hours(y, 0, 1, 1);
            earns("go " + go + ", size 1", y, 1, go, 1);
            earns("go " + go + ", size 2", y, 2, 2 * go, 1);
            earns("go " + go + ", the one that is shut", y, 0, 0, 1);
            hours(y, 0, 0, 0);
            earns("go " + go + ", none is open", y, 1, 0, 1);
        }
        sentence(11, "of the others (of all, if none is) BACK by 16 buy ahead of six: in the SHOP that they LIKE");
        for (int back : new int[] {0, 1, 15, 16}) {
            TillNine y = street("s3,0;s1,0;b1,32,0,8," + back + ",1");
            earns("back " + back + ", of all", y, 0, 2 * back, 1);
            earns("back " + back + ", the other", y, 1, 0, 1);
            y.hours(1, 1);
            earns("back " + back + ", of those who do not go", y, 0, back, 1);
            earns("back " + back + ", the other has those who go", y, 1, 16, 1);
        }
        sentence(11, "or, if none, in all, parted by SIZES");
        sentence(11, "Ahead of six all are");
        TillNine z = street("s1,0;s2,0;s3,0;b3,12,-,8,16,1");
        for (int shop = 0; shop < 3; shop++) {
            earns("none is open, shop " + shop, z, shop, 2 * (shop + 1), 1);
        }
        z.hours(0, 3);
        earns("6 who go, 6 parted among all: size 1", z, 0, 7, 1);
        earns("6 who go, 6 parted among all: size 3", z, 2, 3, 1);
        sentence(11, "Each who buys brings WORTH");
        earns("worth 1", street("s1,0;b1,1,0,0,16,1"), 0, 1, 1);
        earns("worth 99", street("s1,0;b1,99,0,0,16,99"), 0, 9801, 1);
    }

    private static void fines() {
        sentence(11, "less COST times HOURS");
        for (int cost : new int[] {0, 1, 99}) {
            TillNine x = street("s1," + cost);
            for (int v = 0; v <= 3; v++) {
                x.hours(0, v);
                earns("cost " + cost + ", hours " + v, x, 0, -cost * v, 1);
            }
        }
        sentence(11, "less FINE times SEEN by 16, if it is BOUND and its HOURS are above CAP");
        TillNine x = street("s2,0");
        x.set(3, 999);
        for (int cap = 0; cap <= 3; cap++) {
            x.set(1, cap);
            for (int v = 0; v <= 3; v++) {
                x.hours(0, v);
                earns("cap " + cap + ", hours " + v, x, 0, v > cap ? -999 : 0, 1);
            }
        }
        x.set(1, 2);
        for (int small = 0; small <= 3; small++) {
            x.set(2, small);
            earns("size 2, small " + small, x, 0, small < 2 ? -999 : 0, 1);
        }
        x.set(2, 1);
        int[] seen = {0, 1, 15, 16};
        long[][] due = {{0, 1}, {-999, 16}, {-14985, 16}, {-999, 1}};
        for (int i = 0; i < 4; i++) {
            x.set(4, seen[i]);
            earns("seen " + seen[i], x, 0, due[i][0], due[i][1]);
        }
        x.set(3, 0);
        earns("fine 0", x, 0, 0, 1);
        x.set(3, 1);
        earns("fine 1", x, 0, -1, 1);
    }

    private static void fractions() {
        sentence(11, "FRACTIONS, in lowest terms, above and below (0 by 1)");
        earns("0", street("s3,0"), 0, 0, 1);
        earns("1 by 32", street("s1,0;b1,1,-,1,1,1;s1,0"), 0, 1, 32);
        TillNine x = street("s1,1;s3,0;s3,0;s3,0;s3,0;b1,1,-,15,1,1");
        x.hours(1, 1);
        // one by sixteen stays, one by sixteen of that comes ahead of six, a thirteenth of it here
        earns("1 by 3328", x, 0, 1, 3328);
        x.set(5, 1);
        earns("9 by 26624", x, 0, 9, 26624);
        x.set(0, 1);
        x.hours(2, 1);
        earns("153 by 425984", x, 0, 153, 425984);
        sentence(11, "above and below");
        hours(x, 1, 0, 0);
        x.set(5, 0);
        // alone it has 15 by 16 and 1 by 256 by 13, for 1
        earns("below 0", x, 0, -207, 3328);
        TillNine y = street("s1,1;b1,1,0,0,0,1");
        y.hours(0, 1);
        earns("it earns just what it costs", y, 0, 0, 1);
        sentence(11, "As the least long and x more");
        for (int shop : new int[] {-1, 1, 5, LEAST, MOST}) {
            due("earns(" + shop + ", 0)", y.earns(shop, 0), LONG_BAD);
        }
        for (int what : new int[] {-1, 2, LEAST, MOST}) {
            due("earns(0, " + what + ")", y.earns(0, what), LONG_BAD);
        }
    }

    private static void all() {
        sentence(12, "TOGETHER (which = 0), SERVED (1)");
        TillNine x = street("s1,3;s1,4;b1,7,0,0,0,2");
        due("together, shut", x.all(0, 0), x.all(0, 1), 0, 1);
        due("served, shut", x.all(1, 0), x.all(1, 1), 0, 1);
        hours(x, 1, 2);
        due("together", x.all(0, 0), x.all(0, 1), 3, 1);
        due("served", x.all(1, 0), x.all(1, 1), 7, 1);
        hours(x, 0, 3);
        due("together, below 0", x.all(0, 0), x.all(0, 1), -12, 1);
        for (int which : new int[] {-1, 2, LEAST, MOST}) {
            due("all(" + which + ", 0)", x.all(which, 0), LONG_BAD);
        }
        for (int what : new int[] {-1, 2, LEAST, MOST}) {
            due("all(0, " + what + ")", x.all(0, what), LONG_BAD);
            due("all(1, " + what + ")", x.all(1, what), LONG_BAD);
        }
        x.set(1, 2);
        x.set(3, 5);
        x.set(4, 4);
        due("together, less a fine", x.all(0, 0), x.all(0, 1), -53, 4);
        due("served, with a fine", x.all(1, 0), x.all(1, 1), 0, 1);
        sentence(12, "(Without any SHOP all do.)");
        TillNine y = street("b1,99,-,16,16,99");
        due("together", y.all(0, 0), y.all(0, 1), 0, 1);
        due("served", y.all(1, 0), y.all(1, 1), 0, 1);
        sentence(12, "BACK by 16 buy ahead of six");
        due("served, a part", street("s1,0;b1,1,-,0,1,9").all(1, 1), 16);
    }

    private static void answer() {
        sentence(13, "those HOURS (0 to 3) by which it EARNS most");
        for (int v = 0; v <= 3; v++) {
            TillNine x = street(v == 0 ? "s1,1" : "s1,1;b" + v + ",99,0,0,0,1");
            for (int own = 0; own <= 3; own++) {
                x.hours(0, own);
                due("it has " + own, x.answer(0), v);
            }
        }
        sentence(13, "of like ones the fewest");
        due("0 and 1", street("s1,9;b1,9,0,0,0,1").answer(0), 0);
        due("0 and 3", street("s1,9;b3,27,0,0,0,1").answer(0), 0);
        due("1 and 2", street("s1,9;b1,10,0,0,0,1;b2,9,0,0,0,1").answer(0), 1);
        due("1 and 3", street("s1,9;b1,10,0,0,0,1;b3,18,0,0,0,1").answer(0), 1);
        due("2 and 3", street("s1,9;b2,19,0,0,0,1;b3,9,0,0,0,1").answer(0), 2);
        due("all four", street("s1,0").answer(0), 0);
        due("one more", street("s1,9;b3,28,0,0,0,1").answer(0), 3);
        sentence(13, "the others being as they are");
        TillNine x = street(CHASE);
        due("the other one shut", x.answer(1), 1);
        x.hours(0, 1);
        due("the other one open", x.answer(1), 0);
        // by habit 12 would come ahead of six, 24 when it is open: 12 more for 11, for 12
        due("less those who come ahead of six", habitual(11).answer(0), 1);
        due("less those who come ahead of six", habitual(12).answer(0), 0);
        for (int shop : new int[] {-1, 2, 5, LEAST, MOST}) {
            due("answer(" + shop + ")", x.answer(shop), BAD);
        }
        due("without shops", new TillNine().answer(0), BAD);
    }

    private static TillNine habitual(int cost) {
        TillNine x = street("s1," + cost + ";b1,16,0,0,8,1");
        x.set(5, 4);
        return x;
    }

    private static void rest() {
        sentence(14, "each takes its ANSWER, if it EARNS more by that than by what it has");
        TillNine x = street("s1,9;b1,9,0,0,0,1");
        x.hours(0, 1);
        due("no more: it stays", x.rest(0), 1);
        due("no more: no round", x.rest(NONE), 0);
        x.hours(0, 2);
        due("more: it takes its answer, the fewest", x.rest(0), 0);
        due("more: a round", x.rest(NONE), 1);
        sentence(14, "SHOP by SHOP, 0 on");
        // there is room for one: the one that is asked first has it
        TillNine y = street("s1,5;s1,5;b1,8,-,16,0,1");
        due("the first", y.rest(0), 1);
        due("the second", y.rest(1), 0);
        y.hours(1, 1);
        due("it is taken: the first", y.rest(0), 0);
        due("it is taken: the second", y.rest(1), 1);
        hours(y, 1, 1);
        due("both have it: the first gives way", y.rest(0), 0);
        due("both have it: the second", y.rest(1), 1);
        sentence(14, "REST from HOURS as they are");
        due("hours stay as they are", y.count(3), 2);
        sentence(14, "when in 40 rounds some did, it is a RING");
        TillNine ring = street(CHASE);
        due("a ring", ring.rest(NONE), NOT);
        due("a ring", ring.rest(0), NOT);
        due("a ring", ring.rest(1), NOT);
        due("hours stay as they are", ring.count(3), 0);
        sentence(14, "those of a SHOP; ROUNDS (shop = NONE)");
        for (int shop : new int[] {-2, 2, 5, LEAST, MOST}) {
            due("rest(" + shop + "), a ring", ring.rest(shop), BAD);
            due("rest(" + shop + ")", y.rest(shop), BAD);
        }
        sentence(14, "ROUNDS: how many there were in which some did");
        due("without shops", new TillNine().rest(NONE), 0);
        // the most rounds that a search of many million streets has found; TillNineAgainstPlain plays it too
        TillNine far = settled("s3,72;s1,87;s3,63;s3,71;s2,56;b3,89,4,11,14,2;b2,29,1,12,13,9;b2,14,-,10,2,15;b3,44,-,0,5,38;b1,12,-,14,16,16",
            0, 1, 0, 865, 3, 0, 3, 2);
        hours(far, 0, 0, 1, 3, 2);
        due("rounds", far.rest(NONE), 15);
        int[] end = new int[5];
        for (int shop = 0; shop < 5; shop++) {
            end[shop] = far.rest(shop);
        }
        hours(far, end);
        due("rounds from where it rests", far.rest(NONE), 0);
    }

    private static TillNine settled(String text, int... settings) {
        TillNine x = street(text);
        for (int what = 0; what < settings.length; what++) {
            x.set(what, settings[what]);
        }
        return x;
    }

    private static void still() {
        sentence(15, "how many (without SHOPS one), the i-th");
        due("without shops", new TillNine().still(NONE, NONE), 1);
        due("without shops, the first", new TillNine().still(0, 0), BAD);
        due("one shop", street("s1,0").still(NONE, NONE), 4);
        TillNine x = street("s1,0;s1,0;s1,0;s1,0;s1,0");
        due("five shops, all their hours", x.still(NONE, NONE), 1024);
        sentence(15, "In order, the first SHOP's HOURS compared first");
        for (int i : new int[] {0, 1, 4, 27, 256, 512, 1022, 1023}) {
            for (int shop = 0; shop < 5; shop++) {
                due("the " + i + "th, shop " + shop, x.still(i, shop), i >> 8 - 2 * shop & 3);
            }
        }
        sentence(15, "NONE beyond");
        due("the 1024th", x.still(1024, 0), NONE);
        due("the most", x.still(MOST, 4), NONE);
        due("beyond four", street("s1,0").still(4, 0), NONE);
        due("the last of four", street("s1,0").still(3, 0), 3);
        due("none in a ring", street(CHASE).still(0, 1), NONE);
        due("none in a ring: how many", street(CHASE).still(NONE, NONE), 0);
        sentence(15, "BAD: also one of both alone NONE, i below NONE");
        int[][] bad = {{0, NONE}, {NONE, 0}, {-2, 0}, {-2, NONE}, {LEAST, 0}, {LEAST, NONE}, {0, 5}, {0, -2}, {NONE, -2},
            {NONE, 5}, {1024, 5}, {MOST, NONE}, {-2, -2}, {0, MOST}, {0, LEAST}};
        for (int[] b : bad) {
            due("still(" + b[0] + ", " + b[1] + ")", x.still(b[0], b[1]), BAD);
        }
        sentence(15, "by which no SHOP would EARN more by others of its own");
        TillNine y = street("s1,9;b1,9,0,0,0,1");
        due("like ones are both still", y.still(NONE, NONE), 2);
        due("the first", y.still(0, 0), 0);
        due("the second", y.still(1, 0), 1);
        TillNine z = street("s1,5;s1,5;b1,8,-,16,0,1");
        due("room for one", z.still(NONE, NONE), 2);
        due("first, the first shop", z.still(0, 0), 0);
        due("first, the second shop", z.still(0, 1), 1);
        due("second, the first shop", z.still(1, 0), 1);
        due("second, the second shop", z.still(1, 1), 0);
        sentence(15, "STILL are HOURS of all SHOPS");
        hours(z, 1, 0);
        due("whatever they have: how many", z.still(NONE, NONE), 2);
        due("whatever they have: first, the second shop", z.still(0, 1), 1);
        due("whatever they have: second, the first shop", z.still(1, 0), 1);
    }

    private static void best() {
        sentence(16, "in those best for SHOPS (which = 0), for buyers (1)");
        TillNine x = street("s1,9;s1,8;b2,9,-,16,0,1");
        int[][] told = {{0, 0}, {0, 2}};
        for (int which = 0; which < 2; which++) {
            for (int shop = 0; shop < 2; shop++) {
                due("best(" + which + ", " + shop + ")", x.best(which, shop), told[which][shop]);
            }
        }
        for (int which : new int[] {-1, 2, LEAST, MOST}) {
            due("best(" + which + ", 0)", x.best(which, 0), BAD);
        }
        for (int shop : new int[] {-1, 2, 5, LEAST, MOST}) {
            due("best(0, " + shop + ")", x.best(0, shop), BAD);
            due("best(1, " + shop + ")", x.best(1, shop), BAD);
        }
        due("without shops", new TillNine().best(0, 0), BAD);
        sentence(16, "of like ones the first");
        // 8 who come at nine bring 24 for 24: as much as nothing
        TillNine y = street("s1,8;s2,8;b3,8,-,16,0,3");
        due("for shops, the first shop", y.best(0, 0), 0);
        due("for shops, the second shop", y.best(0, 1), 0);
        due("for buyers, the first shop", y.best(1, 0), 0);
        due("for buyers, the second shop", y.best(1, 1), 3);
        TillNine z = street("s1,8;s2,8;b3,8,-,16,0,4");
        due("more than nothing, the first shop", z.best(0, 0), 0);
        due("more than nothing, the second shop", z.best(0, 1), 3);
        due("both open by light", lit().best(1, 0), 3);
        sentence(16, "BEST of all HOURS");
        z.hours(0, 3);
        due("whatever they have", z.best(0, 0), 0);
        due("a fine counts", fined().best(0, 0), 2);
    }

    private static TillNine lit() {
        TillNine x = street("s1,9;s1,9;b3,8,-,16,0,1");
        x.set(0, 1);
        return x;
    }

    /* At nine 9 more come for 5; a fine of 5 is more than that leaves. */
    private static TillNine fined() {
        TillNine x = street("s1,5;b2,20,0,0,0,1;b3,9,0,0,0,1");
        x.set(1, 2);
        x.set(3, 5);
        return x;
    }

    private static void loss() {
        sentence(17, "TOGETHER by those best for SHOPS less what it is by HOURS as they are");
        TillNine x = street("s1,5;b2,20,0,0,0,1");
        due("shut", x.loss(0), x.loss(1), 10, 1);
        x.hours(0, 2);
        due("0 by 1", x.loss(0), x.loss(1), 0, 1);
        x.hours(0, 3);
        due("an hour too many", x.loss(0), x.loss(1), 5, 1);
        x.hours(0, 1);
        due("as they are is below 0", x.loss(0), x.loss(1), 15, 1);
        x.set(1, 2);
        x.set(3, 1);
        x.set(4, 8);
        x.hours(0, 3);
        due("a fine", x.loss(0), x.loss(1), 11, 2);
        due("without shops", new TillNine().loss(0), new TillNine().loss(1), 0, 1);
        TillNine chase = street(CHASE);
        due("best for shops, not for buyers", chase.loss(0), chase.loss(1), 0, 1);
        // 243 by 16 shut, 163 by 32 and 8 more with the second one till seven
        chase.hours(1, 1);
        due("best for shops, not for buyers", chase.loss(0), chase.loss(1), 67, 32);
        for (int what : new int[] {-1, 2, LEAST, MOST}) {
            due("loss(" + what + ")", x.loss(what), LONG_BAD);
        }
    }

    // ---- law, cost

    /* A shop of size 1 without cost that gains many times worth by being open till seven. */
    private static TillNine gains(int many, int worth, int cap, int seen) {
        TillNine x = street("s1,0;b1," + many + ",0,0,0," + worth);
        x.set(1, cap);
        x.set(4, seen);
        return x;
    }

    private static void leastFine() {
        sentence(18, "the least FINE (0 to 999) with which no BOUND one would EARN more by HOURS above CAP; NONE");
        due("it gains 1", gains(1, 1, 0, 16).leastFine(), 1);
        due("it gains 998", lawful("s1,0;b1,99,0,0,0,10;b1,8,0,0,0,1").leastFine(), 998);
        due("it gains 999", gains(27, 37, 0, 16).leastFine(), 999);
        due("it gains 1000", gains(40, 25, 0, 16).leastFine(), NONE);
        due("it gains 62, seen 1", gains(62, 1, 0, 1).leastFine(), 992);
        due("it gains 63, seen 1", gains(63, 1, 0, 1).leastFine(), NONE);
        due("it gains 1, seen 0", gains(1, 1, 0, 0).leastFine(), NONE);
        due("it gains 1, seen 15", gains(1, 1, 0, 15).leastFine(), 2);
        due("it gains 15, seen 15", gains(15, 1, 0, 15).leastFine(), 16);
        due("it gains 15 by 16", lawful("s1,0;b1,1,0,0,1,1").leastFine(), 1);
        due("it gains 0", lawful("s1,0;b1,9,0,16,16,9").leastFine(), 0);
        due("it gains 0 by its cost", lawful("s1,9;b1,9,0,0,0,1").leastFine(), 0);
        due("it gains 0, seen 0", gainless(0).leastFine(), 0);
        due("cap 1", gains(9, 9, 1, 16).leastFine(), 81);
        due("cap 3: no hours are above it", gains(9, 9, 3, 16).leastFine(), 0);
        due("without shops", new TillNine().leastFine(), 0);
        sentence(18, "BOUND are SHOPS whose SIZE is above SMALL");
        TillNine x = gains(9, 1, 0, 16);
        x.set(2, 1);
        due("it is not bound", x.leastFine(), 0);
        TillNine y = street("s1,0;s2,0;b1,50,0,0,0,1;b1,20,1,0,0,1");
        y.set(1, 0);
        due("the one that gains most", y.leastFine(), 50);
        y.set(2, 1);
        due("the one that gains most is small", y.leastFine(), 20);
        y.set(2, 2);
        due("both are small", y.leastFine(), 0);
        sentence(18, "the least FINE");
        TillNine z = gains(9, 9, 0, 16);
        z.set(3, 999);
        due("whatever FINE is", z.leastFine(), 81);
    }

    private static TillNine lawful(String text) {
        TillNine x = street(text);
        x.set(1, 0);
        return x;
    }

    private static TillNine gainless(int seen) {
        TillNine x = lawful("s1,9;b1,9,0,0,0,1");
        x.set(4, seen);
        return x;
    }

    private static void leastFineByHours() {
        sentence(18, "BOUND ones have HOURS as they are, but CAP at most");
        TillNine x = street("s1,5;b1,10,0,0,0,1;b2,20,0,0,0,1");
        x.set(1, 1);
        // 0, 5, 20, 15 by its hours
        int[] told = {20, 15, 15, 15};
        for (int v = 0; v <= 3; v++) {
            x.hours(0, v);
            due("it has " + v + ", cap 1", x.leastFine(), told[v]);
        }
        due("hours stay as they are", x.count(3), 3);
        x.set(1, 2);
        int[] less = {15, 10, 0, 0};
        for (int v = 0; v <= 3; v++) {
            x.hours(0, v);
            due("it has " + v + ", cap 2", x.leastFine(), less[v]);
        }
        TillNine two = street("s1,0;s2,0;b1,12,-,16,0,1");
        two.set(1, 0);
        hours(two, 1, 1);
        due("both have 0 then: all 12 come to the one that opens", two.leastFine(), 12);
        sentence(18, "the others as they are");
        two.set(2, 1);
        due("the small one is open: 8 of 12", two.leastFine(), 8);
        two.hours(0, 0);
        due("the small one is shut: 12", two.leastFine(), 12);
    }

    private static void bestCap() {
        sentence(19, "The best CAP (what = 2; NONE), TOGETHER: above, below (NOT: there is none)");
        for (int v = 0; v <= 3; v++) {
            TillNine x = street(v == 0 ? "s1,1" : "s1,1;b" + v + ",9,0,0,0,1");
            due("best is " + v, x.bestCap(2), v);
            due("best is " + v, x.bestCap(0), x.bestCap(1), v == 0 ? 0 : 9 - v, 1);
        }
        TillNine ring = street(CHASE);
        due("rings but for cap 0", ring.bestCap(2), 0);
        due("rings but for cap 0", ring.bestCap(0), ring.bestCap(1), 243, 16);
        sentence(19, "a RING is none");
        ring.set(2, 3);
        due("rings with each cap", ring.bestCap(2), NONE);
        due("rings with each cap, above", ring.bestCap(0), LONG_NOT);
        due("rings with each cap, below", ring.bestCap(1), LONG_NOT);
        for (int what : new int[] {-1, 3, LEAST, MOST}) {
            due("bestCap(" + what + ")", ring.bestCap(what), LONG_BAD);
            due("bestCap(" + what + ")", new TillNine().bestCap(what), LONG_BAD);
        }
        due("without shops", new TillNine().bestCap(2), 0);
        sentence(19, "of like ones the least CAP");
        due("like ones: 0", street("s1,9;b3,27,0,0,0,1").bestCap(2), 0);
        due("like ones: 2", street("s1,1;b2,27,0,0,0,1").bestCap(2), 2);
        sentence(19, "it is RUN DOWN from all HOURS 0");
        TillNine lights = street("s1,6;s1,6;b1,5,0,0,0,1;b1,5,1,0,0,1");
        lights.set(0, 16);
        hours(lights, 1, 1);
        due("both open would rest too", lights.rest(NONE), 0);
        due("from all shut", lights.bestCap(0), 0);
        sentence(19, "BOUND ones not above it (no FINE is paid)");
        TillNine y = street("s1,1;s3,1;b3,9,0,0,0,1;b3,30,1,0,0,1");
        y.set(1, 0);
        y.set(3, 999);
        due("no fine is paid", y.bestCap(0), y.bestCap(1), 33, 1);
        due("no fine is paid", y.bestCap(2), 3);
        y.set(2, 3);
        due("none is bound: like ones", y.bestCap(2), 0);
        due("none is bound: how much", y.bestCap(0), 33);
        y.set(2, 1);
        due("the small one may", y.bestCap(2), 3);
        TillNine war = street("s1,3;s1,3;b1,8,-,16,16,1");
        due("both open is less than both shut", war.bestCap(2), 0);
        due("both shut", war.bestCap(0), war.bestCap(1), 8, 1);
    }

    private static void edge() {
        sentence(20, "the least COST (0 to 99) of its hour with which its ANSWER is 0; NONE");
        due("nothing comes", street("s1,50").edge(0), 0);
        due("1 comes", street("s1,50;b1,1,0,0,0,1").edge(0), 1);
        due("98 come", street("s1,0;b1,98,0,0,0,1").edge(0), 98);
        due("99 come", street("s1,0;b1,99,0,0,0,1").edge(0), 99);
        due("a little more than 99", street("s1,0;b1,99,0,0,0,1;b1,1,0,0,15,1").edge(0), NONE);
        due("100 come", street("s1,0;b1,50,0,0,0,2").edge(0), NONE);
        due("297 come for three hours", street("s1,0;b3,99,0,0,0,3").edge(0), 99);
        due("298 come for three hours", street("s1,0;b3,99,0,0,0,3;b3,1,0,0,0,1").edge(0), NONE);
        due("4 come for three hours", street("s1,0;b3,4,0,0,0,1").edge(0), 2);
        due("3 come for three hours", street("s1,0;b3,3,0,0,0,1").edge(0), 1);
        due("24 for 12 who come ahead of six", habitual(0).edge(0), 12);
        sentence(20, "EDGE of a SHOP");
        TillNine x = street("s1,99;s1,0;b1,10,-,16,0,1");
        due("whatever it costs", x.edge(0), 10);
        due("whatever it costs", x.edge(1), 10);
        x.hours(0, 3);
        due("whatever it has", x.edge(0), 10);
        due("by hours of the others as they are", x.edge(1), 5);
        x.set(1, 0);
        x.set(3, 4);
        due("less a fine", x.edge(0), 6);
        x.set(3, 10);
        due("less a fine that takes all", x.edge(0), 0);
        for (int shop : new int[] {-1, 2, 5, LEAST, MOST}) {
            due("edge(" + shop + ")", x.edge(shop), BAD);
        }
    }

    private static void always() {
        sentence(21, "with that SHOP open till nine whatever comes");
        TillNine x = street("s1,5;b1,20,0,0,0,1");
        due("two hours too many", x.always(0, 0), x.always(0, 1), -10, 1);
        due("it is best open till nine", nine().always(0, 0), nine().always(0, 1), 0, 1);
        x.hours(0, 3);
        due("with its own answers it shuts at seven", x.always(0, 0), x.always(0, 1), -10, 1);
        due("hours stay as they are", x.count(3), 3);
        TillNine y = street("s1,4;s1,3;b3,14,-,16,0,1");
        y.hours(1, 3);
        due("the other one gives way", y.always(0, 0), y.always(0, 1), 2, 1);
        due("the other one is there", y.always(1, 0), y.always(1, 1), 0, 1);
        sentence(21, "As the least long and x more");
        for (int shop : new int[] {-1, 2, 5, LEAST, MOST}) {
            due("always(" + shop + ", 0)", y.always(shop, 0), LONG_BAD);
        }
        for (int what : new int[] {-1, 2, LEAST, MOST}) {
            due("always(0, " + what + ")", y.always(0, what), LONG_BAD);
        }
        sentence(21, "NOT: one of both is a RING");
        TillNine ring = street(CHASE);
        due("with its own answers", ring.always(0, 0), LONG_NOT);
        due("with its own answers", ring.always(1, 1), LONG_NOT);
        // the second one's light lets the first and the third chase one another; without it they rest
        TillNine held = street("s2,9;s2,8;s3,3;b2,5,0,16,0,2");
        held.set(0, 10);
        due("it rests with its own answers", held.rest(NONE), 1);
        due("only with the second held", held.always(1, 0), LONG_NOT);
        due("only with the second held", held.always(1, 1), LONG_NOT);
        due("the first held: no ring", held.always(0, 0), held.always(0, 1), -17, 1);
        due("the third held: no ring", held.always(2, 0), held.always(2, 1), -3, 1);
        due("BAD is told first", ring.always(2, 0), LONG_BAD);
        due("BAD is told first", ring.always(0, 2), LONG_BAD);
    }

    private static TillNine nine() {
        return street("s1,1;b3,9,0,0,0,1");
    }

    // ---- evenings, weeks

    private static void turn() {
        sentence(22, "of each of 6 EVENINGS (0 on)");
        TillNine x = new TillNine();
        for (int evening = 0; evening < 6; evening++) {
            due("turn(" + evening + ", 31)", x.turn(evening, 31), 0);
            due("turn(" + evening + ", 0)", x.turn(evening, 0), 31);
        }
        for (int evening : new int[] {-1, 6, LEAST, MOST}) {
            due("turn(" + evening + ", 0)", x.turn(evening, 0), BAD);
        }
        sentence(22, "SHOPS (0 to 31, bits)");
        for (int shops : new int[] {-1, 32, LEAST, MOST}) {
            due("turn(0, " + shops + ")", x.turn(0, shops), BAD);
        }
        due("nothing changed", x.count(4), 0);
        x.turn(0, 31);
        x.turn(1, 16);
        due("shops that are not there may be told", x.count(4), 47);
    }

    private static void keeps() {
        sentence(23, "the first EVENING on which some SHOP would EARN more by other HOURS");
        for (int first = 0; first <= 6; first++) {
            TillNine x = street("s1,1;b3,9,0,0,0,1");
            for (int evening = 0; evening < 6; evening++) {
                x.turn(evening, evening == first ? 30 : 1);
            }
            due("evening " + first, x.keeps(0), first == 6 ? NONE : first);
            due("evening " + first + ", which shop", x.keeps(1), first == 6 ? NONE : 0);
        }
        TillNine like = street("s1,3;b3,9,0,0,0,1");
        due("like ones keep", like.keeps(0), NONE);
        like.turn(5, 1);
        due("like ones keep, open", like.keeps(0), NONE);
        like.set(7, 1);
        due("a little more", like.keeps(0), 0);
        sentence(23, "which SHOP (the first); NONE");
        TillNine two = street("s1,0;s1,1;s1,1;b3,9,1,0,0,1;b3,9,2,0,0,1");
        due("the second and the third would", two.keeps(1), 1);
        two.turn(0, 2);
        due("the third would", two.keeps(1), 2);
        two.turn(0, 6);
        due("on the second evening", two.keeps(0), 1);
        due("without shops", new TillNine().keeps(0), NONE);
        due("without shops, which", new TillNine().keeps(1), NONE);
        sentence(23, "all others till six");
        TillNine seven = street("s1,1;b1,9,0,0,0,1");
        seven.turn(0, 1);
        seven.hours(0, 1);
        due("till seven would be best", seven.keeps(0), 0);
        sentence(23, "the EVENING (what = 0), the SHOP (1)");
        for (int what : new int[] {-1, 2, LEAST, MOST}) {
            due("keeps(" + what + ")", two.keeps(what), BAD);
        }
    }

    private static void week() {
        sentence(24, "what it EARNS on all 6");
        for (int evening = 0; evening < 6; evening++) {
            TillNine x = street("s1,1;b3,9,0,0,0,1;b1,2,-,0,8,1");
            x.turn(evening, 31);
            // 9 and 1 less 3 on that one, and 1 on each of the others
            due("evening " + evening, x.week(0, 0), x.week(0, 1), 12, 1);
        }
        TillNine y = street("s1,1;s1,2");
        due("0 by 1", y.week(0, 0), y.week(0, 1), 0, 1);
        for (int evening = 0; evening < 6; evening++) {
            y.turn(evening, 2);
        }
        due("shut", y.week(0, 0), y.week(0, 1), 0, 1);
        due("open on all", y.week(1, 0), y.week(1, 1), -36, 1);
        y.set(1, 2);
        y.set(3, 1);
        y.set(4, 1);
        due("fined on all", y.week(1, 0), y.week(1, 1), -291, 8);
        TillNine alone = street("s1,0;b3,8,0,0,0,1");
        alone.set(0, 16);
        alone.turn(2, 31);
        due("those that are not there have no light", alone.week(0, 0), alone.week(0, 1), 8, 1);
        alone.turn(2, 30);
        due("it is not among them", alone.week(0, 0), alone.week(0, 1), 0, 1);
        sentence(24, "As the least long and x more");
        for (int shop : new int[] {-1, 2, 5, LEAST, MOST}) {
            due("week(" + shop + ", 0)", y.week(shop, 0), LONG_BAD);
        }
        for (int what : new int[] {-1, 2, LEAST, MOST}) {
            due("week(0, " + what + ")", y.week(0, what), LONG_BAD);
        }
    }

    private static void weeks() {
        sentence(25, "After t WEEKS (0 to 50)");
        TillNine x = street("s1,1;b2,9,0,0,0,1");
        for (int t : new int[] {-1, 51, LEAST, MOST}) {
            due("weeks(" + t + ", 0)", x.weeks(t, 0), BAD);
        }
        due("weeks(0, 0)", x.weeks(0, 0), 0);
        due("weeks(1, 0)", x.weeks(1, 0), 2);
        due("weeks(50, 0)", x.weeks(50, 0), 2);
        sentence(25, "HOURS of a SHOP (0 to 4), HABIT of HOURS 1 to 3 (5 to 7)");
        for (int which : new int[] {-1, 8, LEAST, MOST}) {
            due("weeks(0, " + which + ")", x.weeks(0, which), BAD);
            due("weeks(50, " + which + ")", x.weeks(50, which), BAD);
        }
        hours(x, 1, 0, 3, 2, 1);
        x.set(5, 3);
        x.set(6, 7);
        x.set(7, 1);
        int[][] told = {{1, 0, 3, 2, 1, 3, 7, 1}, {2, 0, 3, 2, 1, 4, 8, 0}, {2, 0, 3, 2, 1, 5, 8, 0}};
        for (int t = 0; t < 3; t++) {
            for (int which = 0; which < 8; which++) {
                due("weeks(" + t + ", " + which + ")", x.weeks(t, which), told[t][which]);
            }
        }
        due("hours stay as they are", x.count(3), 1);
        due("habits stay as they are", x.count(5), 11);
        sentence(25, "is 1 more (8 at most), of others 1 less (0 at least)");
        TillNine y = street("s1,0");
        y.hours(0, 2);
        y.set(7, 8);
        for (int t = 0; t <= 50; t++) {
            due("up, " + t, y.weeks(t, 5), Math.min(t, 8));
            due("down, " + t, y.weeks(t, 7), Math.max(8 - t, 0));
        }
        sentence(25, "in a RING they stay as they were");
        TillNine ring = street(CHASE);
        hours(ring, 1, 2);
        due("a ring", ring.rest(NONE), NOT);
        due("hours", ring.weeks(1, 0), 1);
        due("hours", ring.weeks(1, 1), 2);
        due("habit is 1 more", ring.weeks(1, 5), 1);
        due("habit is 1 more", ring.weeks(1, 6), 1);
        due("habit is 0 at least", ring.weeks(1, 7), 0);
    }

    private static void back() {
        sentence(26, "the first of 0 to 50 WEEKS after which all HOURS 0 are not STILL; NONE");
        due("nobody gains", street("s1,9;b1,9,0,0,0,1").back(), NONE);
        due("at once", street("s1,9;b1,10,0,0,0,1").back(), 0);
        due("without shops", new TillNine().back(), NONE);
        // a free neighbour keeps the hour: 9 times (8 and habit) by 8, for 10
        TillNine x = street("s1,10;s1,0;b1,9,0,0,0,1");
        due("the hour is not open", x.back(), NONE);
        x.hours(1, 1);
        due("the hour is open", x.back(), 1);
        TillNine last = street("s1,10;s1,0;b1,5,0,0,0,1");
        last.hours(1, 1);
        due("habit is 8 at most: 10 for 10", last.back(), NONE);
        TillNine eight = street("s1,19;s1,0;b1,10,0,0,0,1");
        eight.hours(1, 1);
        due("after 8 weeks: 20 for 19", eight.back(), 8);
        eight.set(5, 7);
        due("after 1 week", eight.back(), 1);
        eight.set(5, 8);
        due("at once by habit", eight.back(), 0);
        due("hours stay as they are", eight.weeks(0, 1), 1);
        // the latest week that a search has found: one hour's habit after another comes to 8
        TillNine late = settled("s1,4;s3,70;s2,86;s3,96;s3,88;b1,73,-,0,15,68;b1,34,1,0,16,49;b1,70,-,2,1,4;b2,99,2,10,8,2;b3,39,2,13,15,2;b2,71,-,0,12,77",
            4, 0, 0, 428, 16, 1, 7, 8);
        hours(late, 1, 1, 0, 1, 0);
        due("after 24 weeks", late.back(), 24);
        sentence(26, "all HOURS 0 are not STILL");
        TillNine open = street("s1,9;b1,9,0,0,0,1");
        open.hours(0, 2);
        due("its hours are not still, but all 0 are", open.back(), NONE);
        TillNine two = street("s1,9;s1,5;b1,9,0,0,0,1;b1,6,1,0,0,1");
        two.hours(1, 1);
        due("its hours are still, but all 0 are not", two.back(), 0);
    }

    // ---- sheets

    private static void sheet() {
        sentence(27, "SHEETS 0 .. 3");
        TillNine x = new TillNine();
        for (int s : new int[] {-1, 4, LEAST, MOST}) {
            due("sheet(" + s + ", 0, 1)", x.sheet(s, 0, 1), BAD);
            due("sheet(" + s + ", 0, -1)", x.sheet(s, 0, -1), BAD);
        }
        sentence(27, "a row of a FORM: 0 bytes, 1 shorts, 2 ints");
        for (int form : new int[] {-1, 3, LEAST, MOST}) {
            due("sheet(0, " + form + ", 1)", x.sheet(0, form, 1), BAD);
            due("sheet(0, " + form + ", -1)", x.sheet(0, form, -1), BAD);
        }
        sentence(27, "BAD: SHEET, FORM, above 60; SIZE");
        due("sheet(0, 0, 61)", x.sheet(0, 0, 61), BAD);
        due("sheet(0, 0, most)", x.sheet(0, 0, MOST), BAD);
        due("no finding", x.count(8), 0);
        due("sheet(0, 0, -1)", x.sheet(0, 0, -1), SIZE);
        due("finding", x.count(8), 5);
        due("sheet(0, 0, least)", x.sheet(0, 0, LEAST), SIZE);
        due("it is still lost", x.lose(0), NULL);
        sentence(27, "of 0 to 60 items (0 at first)");
        for (int s = 0; s <= 3; s++) {
            for (int form = 0; form <= 2; form++) {
                due("sheet of 0", x.sheet(s, form, 0), 0);
                due("it has no item", x.lay(s, form, 0, 1), INDEX);
                due("sheet of 1", x.sheet(s, form, 1), 1);
                due("it has one item", x.lay(s, form, 0, 1), 1);
                due("sheet of 60", x.sheet(s, form, 60), 60);
                due("item 0 at first", x.get(s, form, 0), 0);
                due("item 59", x.lay(s, form, 59, 7), 1);
                due("item 60", x.lay(s, form, 60, 7), INDEX);
            }
        }
        sentence(27, "A SHEET is a new row");
        x.sheet(1, 2, 60);
        due("0 at first", x.get(1, 2, 59), 0);
        due("the others stay", x.get(2, 2, 59), 7);
        x.lay(1, 2, 0, 9);
        x.sheet(1, 2, 1);
        x.sheet(1, 2, 60);
        due("0 at first, ahead", x.get(1, 2, 0), 0);
        due("a size that may not be", x.sheet(2, 0, 61), BAD);
        due("it stays as it was", x.get(2, 2, 59), 7);
        due("a size below 0", x.sheet(2, 0, -1), SIZE);
        due("it stays as it was", x.get(2, 2, 59), 7);
    }

    private static void lose() {
        sentence(28, "how many items it had");
        TillNine x = new TillNine();
        for (int s = 0; s <= 3; s++) {
            for (int n : new int[] {0, 1, 60}) {
                x.sheet(s, n % 3, n);
                due("lose(" + s + ")", x.lose(s), n);
                due("lose(" + s + ") again", x.lose(s), NULL);
            }
        }
        due("finding", x.count(8), 1);
        for (int s : new int[] {-1, 4, LEAST, MOST}) {
            due("lose(" + s + ")", x.lose(s), BAD);
        }
        sentence(28, "It is LOST");
        x.sheet(0, 0, 3);
        x.lay(0, 0, 0, 7);
        x.lose(0);
        due("lay", x.lay(0, 0, 0, 1), NULL);
        due("read", x.read(0), NULL);
        due("write", x.write(0), NULL);
        due("copy", x.copy(0, 0, 0, 0, 0), NULL);
        x.sheet(0, 0, 3);
        due("a new one has nothing of it", x.get(0, 0, 0), 0);
    }

    private static void lay() {
        sentence(29, "the lowest bits that it has, with its sign");
        int[][] bytes = {{0, 0}, {1, 1}, {127, 127}, {128, -128}, {255, -1}, {256, 0}, {-1, -1}, {-128, -128}, {-129, 127}, {MOST, -1},
            {LEAST, 0}};
        int[][] shorts = {{0, 0}, {127, 127}, {128, 128}, {255, 255}, {32767, 32767}, {32768, -32768}, {65535, -1}, {65536, 0}, {-1, -1},
            {-32768, -32768}, {-32769, 32767}, {MOST, -1}, {LEAST, 0}};
        int[][] ints = {{0, 0}, {128, 128}, {32768, 32768}, {65536, 65536}, {-129, -129}, {-32769, -32769}, {MOST, MOST}, {LEAST + 1, LEAST + 1}};
        int[][][] forms = {bytes, shorts, ints};
        TillNine x = new TillNine();
        for (int form = 0; form <= 2; form++) {
            x.sheet(form, form, 3);
            for (int[] pair : forms[form]) {
                due("lay, form " + form + ", " + pair[0], x.lay(form, form, 1, pair[0]), 1);
                due("get, form " + form + ", " + pair[0], x.get(form, form, 1), pair[1]);
            }
            due("the item ahead", x.get(form, form, 0), 0);
            due("the item behind", x.get(form, form, 2), 0);
        }
        sentence(29, "BAD; NULL; CAST; INDEX");
        for (int s : new int[] {-1, 4, LEAST, MOST}) {
            due("lay(" + s + ", 0, 0, 0)", x.lay(s, 0, 0, 0), BAD);
        }
        for (int form : new int[] {-1, 3, LEAST, MOST}) {
            due("form " + form, x.lay(0, form, 0, 0), BAD);
            due("form " + form + ", lost", x.lay(3, form, 0, 0), BAD);
        }
        due("no finding", x.count(8), 0);
        due("lost, no such item", x.lay(3, 0, -1, 0), NULL);
        for (int form = 0; form <= 2; form++) {
            for (int as = 0; as <= 2; as++) {
                due("form " + form + " as " + as, x.lay(form, as, 0, 5), form == as ? 1 : CAST);
                due("form " + form + " as " + as + ", item 3", x.lay(form, as, 3, 5), form == as ? INDEX : CAST);
                due("form " + form + " as " + as + ", item -1", x.lay(form, as, -1, 5), form == as ? INDEX : CAST);
            }
            for (int i : new int[] {-1, 3, LEAST, MOST}) {
                due("item " + i, x.lay(form, form, i, 5), INDEX);
            }
            due("item 2", x.lay(form, form, 2, 5), 1);
        }
        due("finding", x.count(8), 2);
    }

    private static void get() {
        sentence(30, "BAD: the least int; so are NULL, CAST, INDEX (count() 8 tells)");
        TillNine x = new TillNine();
        x.sheet(0, 1, 2);
        for (int s : new int[] {-1, 4, LEAST, MOST}) {
            due("get(" + s + ", 1, 0)", x.get(s, 1, 0), LEAST);
        }
        for (int form : new int[] {-1, 3, LEAST, MOST}) {
            due("get(0, " + form + ", 0)", x.get(0, form, 0), LEAST);
            due("get(1, " + form + ", 0)", x.get(1, form, 0), LEAST);
        }
        due("BAD is no finding", x.count(8), 0);
        due("lost, no such item", x.get(1, 0, -1), LEAST);
        due("NULL", x.count(8), 1);
        due("item 2", x.get(0, 1, 2), LEAST);
        due("INDEX", x.count(8), 2);
        due("another form, no such item", x.get(0, 0, 2), LEAST);
        due("CAST", x.count(8), 3);
        for (int i : new int[] {-1, LEAST, MOST}) {
            x.lose(3);
            due("item " + i, x.get(0, 1, i), LEAST);
            due("INDEX", x.count(8), 2);
        }
        x.lose(3);
        x.lay(0, 1, 1, 8);
        due("item 0", x.get(0, 1, 0), 0);
        due("item 1", x.get(0, 1, 1), 8);
        x.sheet(2, 2, 1);
        x.lay(2, 2, 0, LEAST);
        due("an item that is the least int", x.get(2, 2, 0), LEAST);
        due("is no finding", x.count(8), 1);
    }

    /* Sheets 0, 1 of bytes, 4 and 3 items; 2 of shorts, 4 items; 3 is lost. */
    private static TillNine copies() {
        TillNine x = new TillNine();
        x.sheet(0, 0, 4);
        x.sheet(1, 0, 3);
        x.sheet(2, 1, 4);
        for (int i = 0; i < 4; i++) {
            x.lay(0, 0, i, 10 + i);
            x.lay(1, 0, i, 20 + i);
            x.lay(2, 1, i, 30 + i);
        }
        x.sheet(3, 0, -1);
        return x;
    }

    private static void items(TillNine x, int s, int... want) {
        for (int i = 0; i < want.length; i++) {
            due("item " + i + " of sheet " + s, x.get(s, s == 2 ? 1 : 0, i), want[i]);
        }
    }

    private static void copy() {
        sentence(31, "BAD: the SHEETS; NULL: s, t; STORE; INDEX");
        TillNine x = copies();
        for (int s : new int[] {-1, 4, LEAST, MOST}) {
            due("from " + s, x.copy(s, 0, 0, 0, 1), BAD);
            due("to " + s, x.copy(0, 0, s, 0, 1), BAD);
            due("from the lost one to " + s, x.copy(3, 0, s, 0, 1), BAD);
            due("from " + s + " to the lost one", x.copy(s, 0, 3, 0, 1), BAD);
        }
        due("BAD is no finding", x.count(8), 5);
        due("from a lost one", x.copy(3, -1, 2, 0, 1), NULL);
        due("to a lost one", x.copy(2, -1, 3, 0, 1), NULL);
        due("from a lost one to itself", x.copy(3, 0, 3, 0, 0), NULL);
        due("finding", x.count(8), 1);
        due("unlike forms", x.copy(0, 0, 2, 0, 1), STORE);
        due("unlike forms, no items", x.copy(2, 0, 0, 0, 0), STORE);
        due("unlike forms, no such item", x.copy(0, -1, 2, 9, 99), STORE);
        due("finding", x.count(8), 4);
        sentence(31, "INDEX: below 0, not so many (with n 0, too, if i or j is above how many there are)");
        int[][] not = {{-1, 0, 1}, {0, -1, 1}, {0, 0, -1}, {-1, 0, 0}, {0, -1, 0}, {5, 0, 0}, {0, 4, 0}, {0, 0, 4}, {2, 0, 3}, {0, 1, 3},
            {1, 2, 2}, {4, 0, 1}, {0, 3, 1}, {LEAST, 0, 0}, {0, LEAST, 0}, {0, 0, LEAST}, {MOST, 0, 1}, {0, MOST, 1}, {1, 1, MOST},
            {MOST, MOST, MOST}, {MOST, 0, 0}, {0, MOST, 0}, {-1, 0, MOST}, {5, 0, -1}, {0, 4, -1}};
        for (int[] n : not) {
            x.lose(3);
            due("copy(0, " + n[0] + ", 1, " + n[1] + ", " + n[2] + ")", x.copy(0, n[0], 1, n[1], n[2]), INDEX);
            due("finding", x.count(8), 2);
        }
        items(x, 0, 10, 11, 12, 13);
        items(x, 1, 20, 21, 22);
        items(x, 2, 30, 31, 32, 33);
        due("n 0 at both ends", x.copy(0, 4, 1, 3, 0), 1);
        due("n 0 ahead", x.copy(0, 0, 1, 0, 0), 1);
        items(x, 1, 20, 21, 22);
        sentence(31, "n items of SHEET s, from i on, come to SHEET t");
        due("up to both ends", x.copy(0, 3, 1, 2, 1), 1);
        items(x, 1, 20, 21, 13);
        due("all of them", x.copy(0, 0, 1, 0, 3), 1);
        items(x, 1, 10, 11, 12);
        items(x, 0, 10, 11, 12, 13);
        sentence(31, "perhaps s, as they were");
        due("behind", x.copy(0, 0, 0, 1, 3), 1);
        items(x, 0, 10, 10, 11, 12);
        due("ahead", x.copy(0, 1, 0, 0, 3), 1);
        items(x, 0, 10, 11, 12, 12);
        due("onto itself", x.copy(0, 0, 0, 0, 4), 1);
        items(x, 0, 10, 11, 12, 12);
        due("onto itself, one too many", x.copy(0, 0, 0, 0, 5), INDEX);
        for (int form = 1; form <= 2; form++) {
            TillNine y = new TillNine();
            y.sheet(0, form, 60);
            y.sheet(3, form, 60);
            y.lay(0, form, 59, -300);
            due("60 of form " + form, y.copy(0, 0, 3, 0, 60), 1);
            due("the last one", y.get(3, form, 59), -300);
        }
    }

    private static void write() {
        sentence(32, "as many as there are items and SHOPS: how many");
        String five = "s1,1;s1,1;s1,1;s1,1;s1,1;b1,9,0,0,0,1;b2,9,1,0,0,1;b3,9,2,0,0,1;b2,9,4,0,0,1";
        int[] answers = {1, 2, 3, 0, 2};
        for (int form = 0; form <= 2; form++) {
            for (int n : new int[] {0, 1, 4, 5, 6, 60}) {
                TillNine x = street(five);
                x.sheet(3, form, n);
                for (int i = 0; i < n; i++) {
                    x.lay(3, form, i, 77);
                }
                due("write, " + n + " items", x.write(3), Math.min(n, 5));
                for (int i = 0; i < n; i++) {
                    due("item " + i + " of " + n, x.get(3, form, i), i < 5 ? answers[i] : 77);
                }
            }
        }
        TillNine y = street("s1,1;b3,9,0,0,0,1");
        y.sheet(0, 0, 5);
        due("one shop", y.write(0), 1);
        due("its answer", y.get(0, 0, 0), 3);
        due("hours stay as they are", y.count(3), 0);
        y.wipe();
        due("no shops", y.write(0), 0);
        due("the item stays", y.get(0, 0, 0), 3);
        sentence(32, "BAD; NULL");
        for (int s : new int[] {-1, 4, LEAST, MOST}) {
            due("write(" + s + ")", y.write(s), BAD);
        }
        due("no finding", y.count(8), 0);
        due("lost", y.write(1), NULL);
        due("finding", y.count(8), 1);
    }

    private static void count() {
        sentence(33, "BAD");
        TillNine x = street(FIVE_SHOPS + ";b1,99,-,0,0,1;b1,1,-,0,0,1");
        for (int what : new int[] {-1, 9, LEAST, MOST}) {
            due("count(" + what + ")", x.count(what), BAD);
        }
        sentence(33, "0 SHOPS, 1 SORTS, 2 bytes of the STREET");
        due("shops", x.count(0), 5);
        due("sorts", x.count(1), 2);
        due("bytes", x.count(2), 51);
        sentence(33, "3 HOURS of all SHOPS that are there together");
        hours(x, 3, 3, 3, 3, 3);
        due("of five", x.count(3), 15);
        x.wipe();
        due("of none", x.count(3), 0);
        type(x, "s1,1;s1,1");
        due("of two", x.count(3), 6);
        sentence(33, "4 all TURNS (bits, together as numbers)");
        for (int evening = 0; evening < 6; evening++) {
            x.turn(evening, 31);
        }
        due("turns", x.count(4), 186);
        x.turn(5, 0);
        due("turns", x.count(4), 155);
        sentence(33, "5 HABITS together, 6 CAP");
        for (int what = 0; what < 8; what++) {
            x.set(what, 2);
        }
        due("habits", x.count(5), 6);
        due("cap", x.count(6), 2);
        sentence(33, "7 MANY of all SORTS together");
        due("without sorts", x.count(7), 0);
        type(x, ";b1,99,-,0,0,1;b1,99,-,0,0,1;b1,99,-,0,0,1;b1,99,-,0,0,1;b1,99,-,0,0,1;b1,99,-,0,0,1");
        due("six sorts", x.count(7), 594);
        sentence(33, "8 the number of the latest FINDING (0 before any)");
        due("before any", x.count(8), 0);
        x.sheet(0, 0, 1);
        x.sheet(1, 1, 1);
        x.lose(9);
        due("BAD is none", x.count(8), 0);
        x.lose(3);
        due("NULL", x.count(8), 1);
        x.lay(0, 0, 1, 0);
        due("INDEX", x.count(8), 2);
        x.lay(0, 1, 0, 0);
        due("CAST", x.count(8), 3);
        x.copy(0, 0, 1, 0, 1);
        due("STORE", x.count(8), 4);
        x.sheet(0, 0, -1);
        due("SIZE", x.count(8), 5);
        x.lay(0, 0, 0, 0);
        x.lose(9);
        due("the latest stays", x.count(8), 5);
        x.lose(3);
        due("NULL again", x.count(8), 1);
    }

    /* What the document folds, told by the calls themselves. */
    private static long folded(TillNine x) {
        long h = 17;
        for (int what = 0; what <= 7; what++) {
            h = 31 * h + x.count(what);
        }
        h = 31 * h + x.fault();
        for (int shop = 0; shop < x.count(0); shop++) {
            h = 31 * h + x.earns(shop, 0);
            h = 31 * h + x.earns(shop, 1);
            h = 31 * h + x.answer(shop);
            h = 31 * h + x.rest(shop);
            h = 31 * h + x.best(0, shop);
            h = 31 * h + x.best(1, shop);
        }
        for (int which = 0; which <= 1; which++) {
            h = 31 * h + x.all(which, 0);
            h = 31 * h + x.all(which, 1);
        }
        h = 31 * h + x.rest(NONE);
        h = 31 * h + x.still(NONE, NONE);
        h = 31 * h + x.leastFine();
        h = 31 * h + x.keeps(0);
        h = 31 * h + x.keeps(1);
        for (int which = 0; which <= 7; which++) {
            h = 31 * h + x.weeks(5, which);
        }
        return 31 * h + x.back();
    }

    private static void digest() {
        sentence(34, "as longs that wrap");
        String[] texts = {"", "x", "s1,1;", "s1,1", CHASE, FIVE_SHOPS, SIX_SORTS, FIVE_SHOPS + ";" + SIX_SORTS, "s1,5;s1,5;b1,8,-,16,0,1",
            "s1,10;s1,0;b1,5,0,0,0,1", "s2,0;b1,99,0,0,0,99;s3,1;b2,77,1,3,5,7"};
        for (String text : texts) {
            TillNine x = street(text);
            due("the digest of " + text, x.digest(), folded(x));
            hours(x, 2, 1, 3);
            x.set(0, 5);
            x.set(1, 1);
            x.set(3, 40);
            x.set(4, 9);
            x.set(6, 3);
            x.turn(3, 21);
            due("another digest of " + text, x.digest(), folded(x));
        }
        sentence(34, "count() 0 to 7");
        TillNine y = street(CHASE);
        long before = y.digest();
        y.lose(0);
        y.sheet(0, 0, 5);
        due("a finding and a sheet are not in it", y.digest(), before);
        y.turn(5, 16);
        due("turns are in it", y.digest() == before ? 1 : 0, 0);
    }

    private static void callsInARow() {
        sentence(34, "An object is used for at most 512 calls after it has been made");
        TillNine x = new TillNine();
        int calls = 0;
        for (int i = 0; i < CHASE.length(); i++) {
            due("type", x.type(CHASE.charAt(i)), i + 1);
            calls++;
        }
        while (calls < 511) {
            due("call " + calls, x.rest(NONE), NOT);
            calls++;
        }
        due("the 512th call", x.answer(1), 1);
        x.rest(NONE);
        x.digest();
        TillNine y = new TillNine();
        for (int i = 0; i < 512; i++) {
            due("call " + i, y.type('s'), i < 150 ? i + 1 : FULL);
        }
    }

    /** Refusals change nothing, FINDINGS but count() 8; nor do calls that only tell. */
    private static final class Refusals {
        private interface Call {
            long on(TillNine x);
        }

        /* Nothing of it is as at first; sheet 3 is lost, and STORE was the latest finding. */
        private static TillNine busy() {
            TillNine x = street("s3,9;s1,8;s2,4;b1,9,-,8,9,3;b2,40,1,3,5,2;b3,7,2,0,16,1");
            int[] settings = {5, 1, 1, 77, 9, 2, 4, 6};
            for (int what = 0; what < 8; what++) {
                x.set(what, settings[what]);
            }
            hours(x, 1, 3, 2, 3, 1);
            for (int evening = 0; evening < 6; evening++) {
                x.turn(evening, 5 * evening + 3);
            }
            for (int s = 0; s < 3; s++) {
                x.sheet(s, s, 2 + s);
                for (int i = 0; i < 2 + s; i++) {
                    x.lay(s, s, i, 1 + i + 7 * s);
                }
            }
            x.copy(0, 0, 1, 0, 1);
            return x;
        }

        /* All that can be told of an object but its count() 8, which is told first; it is of no use then. */
        private static long[] state(TillNine x) {
            long[] told = new long[200];
            int n = 0;
            for (int what = 8; what >= 0; what--) {
                told[n++] = x.count(what);
            }
            told[n++] = x.fault();
            told[n++] = x.digest();
            for (int i = 0; i < 3; i++) {
                for (int what = 0; what <= 5; what++) {
                    told[n++] = x.shop(i, what);
                    told[n++] = x.sort(i, what);
                }
            }
            for (int s = 0; s < 4; s++) {
                for (int i = 0; i < 5; i++) {
                    told[n++] = x.get(s, s % 3, i);
                }
                told[n++] = x.lose(s);
            }
            for (int what = 0; what < 8; what++) {
                told[n++] = x.set(what, 0);
            }
            for (int shop = 0; shop < 5; shop++) {
                told[n++] = x.hours(shop, 0);
            }
            for (int evening = 0; evening < 6; evening++) {
                told[n++] = x.turn(evening, 0);
            }
            told[n++] = x.type(';');
            told[n++] = x.wipe();
            return told;
        }

        private static void same(String what, long[] got, int finding) {
            long[] was = state(busy());
            was[0] = finding;
            for (int i = 0; i < was.length; i++) {
                due(what + ", then of its state " + i, got[i], was[i]);
            }
        }

        private static void refused(String what, Call call, long want) {
            TillNine x = busy();
            due(what, call.on(x), want);
            same(what, state(x), want <= NULL && want >= SIZE ? (int) (-10 - want) : 4);
        }

        private static void onlyTold(String what, Call call) {
            TillNine x = busy();
            long first = call.on(x);
            due(what + " again", call.on(x), first);
            same(what, state(x), 4);
        }

        static void all() {
            streets();
            told();
            sheets();
            full();
            rings();
        }

        private static void streets() {
            sentence(2, "They change nothing (FINDINGS but count() 8)");
            refused("type(-1)", x -> x.type(-1), BAD);
            refused("type(256)", x -> x.type(256), BAD);
            sentence(5, "They change nothing (FINDINGS but count() 8)");
            refused("shop(3, 0)", x -> x.shop(3, 0), BAD);
            sentence(6, "They change nothing (FINDINGS but count() 8)");
            refused("sort(3, 0)", x -> x.sort(3, 0), BAD);
            sentence(7, "They change nothing (FINDINGS but count() 8)");
            int[] top = {16, 3, 3, 999, 16, 8, 8, 8};
            for (int i = 0; i < 8; i++) {
                int what = i;
                refused("set(" + what + ", too much)", x -> x.set(what, top[what] + 1), BAD);
                refused("set(" + what + ", -1)", x -> x.set(what, -1), BAD);
            }
            refused("set(8, 0)", x -> x.set(8, 0), BAD);
            refused("set(-1, 0)", x -> x.set(-1, 0), BAD);
            sentence(8, "They change nothing (FINDINGS but count() 8)");
            for (int i = 0; i < 5; i++) {
                int shop = i;
                refused("hours(" + shop + ", 4)", x -> x.hours(shop, 4), BAD);
                refused("hours(" + shop + ", -1)", x -> x.hours(shop, -1), BAD);
            }
            refused("hours(5, 0)", x -> x.hours(5, 0), BAD);
            refused("hours(-1, 0)", x -> x.hours(-1, 0), BAD);
            sentence(9, "They change nothing (FINDINGS but count() 8)");
            refused("read(4)", x -> x.read(4), BAD);
            refused("read(3)", x -> x.read(3), NULL);
            sentence(10, "They change nothing (FINDINGS but count() 8)");
            refused("open(4)", x -> x.open(4), BAD);
            sentence(22, "They change nothing (FINDINGS but count() 8)");
            for (int i = 0; i < 6; i++) {
                int evening = i;
                refused("turn(" + evening + ", 32)", x -> x.turn(evening, 32), BAD);
                refused("turn(" + evening + ", -1)", x -> x.turn(evening, -1), BAD);
            }
            refused("turn(6, 0)", x -> x.turn(6, 0), BAD);
            refused("turn(-1, 0)", x -> x.turn(-1, 0), BAD);
        }

        private static void told() {
            Call[] calls = {x -> x.fault(), x -> x.shop(0, 0), x -> x.sort(0, 0), x -> x.open(1), x -> x.earns(0, 0), x -> x.all(0, 0),
                x -> x.answer(0), x -> x.rest(0), x -> x.still(0, 0), x -> x.best(0, 0), x -> x.loss(0), x -> x.leastFine(),
                x -> x.bestCap(0), x -> x.edge(0), x -> x.always(0, 0), x -> x.keeps(0), x -> x.week(0, 0), x -> x.weeks(50, 0),
                x -> x.back(), x -> x.get(0, 0, 0), x -> x.count(3), x -> x.digest()};
            int[] promises = {4, 5, 6, 10, 11, 12, 13, 14, 15, 16, 17, 18, 19, 20, 21, 23, 24, 25, 26, 30, 33, 34};
            for (int i = 0; i < calls.length; i++) {
                sentence(promises[i], "by hours as they are");
                onlyTold("a call that tells", calls[i]);
            }
            Call[] bad = {x -> x.answer(3), x -> x.rest(3), x -> x.still(0, 3), x -> x.best(2, 0), x -> x.edge(3), x -> x.keeps(2),
                x -> x.weeks(51, 0), x -> x.count(9)};
            int[] of = {13, 14, 15, 16, 20, 23, 25, 33};
            for (int i = 0; i < bad.length; i++) {
                sentence(of[i], "They change nothing (FINDINGS but count() 8)");
                refused("a refused call", bad[i], BAD);
            }
            Call[] longs = {x -> x.earns(3, 0), x -> x.all(2, 0), x -> x.loss(2), x -> x.bestCap(3), x -> x.always(3, 0), x -> x.week(3, 0)};
            int[] ofLongs = {11, 12, 17, 19, 21, 24};
            for (int i = 0; i < longs.length; i++) {
                sentence(ofLongs[i], "Where the answer is a long, a refusal -x is the least long and x more");
                refused("a refused call", longs[i], LONG_BAD);
            }
        }

        private static void sheets() {
            sentence(27, "They change nothing (FINDINGS but count() 8)");
            refused("sheet(4, 0, 1)", x -> x.sheet(4, 0, 1), BAD);
            refused("sheet(0, 3, 1)", x -> x.sheet(0, 3, 1), BAD);
            refused("sheet(0, 0, 61)", x -> x.sheet(0, 0, 61), BAD);
            refused("sheet(0, 0, -1)", x -> x.sheet(0, 0, -1), SIZE);
            refused("sheet(3, 0, -1)", x -> x.sheet(3, 0, -1), SIZE);
            sentence(28, "They change nothing (FINDINGS but count() 8)");
            refused("lose(4)", x -> x.lose(4), BAD);
            refused("lose(3)", x -> x.lose(3), NULL);
            sentence(29, "They change nothing (FINDINGS but count() 8)");
            refused("lay(4, 0, 0, 9)", x -> x.lay(4, 0, 0, 9), BAD);
            refused("lay(0, 3, 0, 9)", x -> x.lay(0, 3, 0, 9), BAD);
            refused("lay(3, 0, 0, 9)", x -> x.lay(3, 0, 0, 9), NULL);
            refused("lay(0, 1, 0, 9)", x -> x.lay(0, 1, 0, 9), CAST);
            refused("lay(0, 0, 2, 9)", x -> x.lay(0, 0, 2, 9), INDEX);
            refused("lay(0, 0, -1, 9)", x -> x.lay(0, 0, -1, 9), INDEX);
            sentence(30, "the least int; so are NULL, CAST, INDEX (count() 8 tells)");
            int[][] gets = {{4, 0, 0, 4}, {0, 3, 0, 4}, {3, 0, 0, 1}, {0, 1, 0, 3}, {0, 0, 2, 2}, {0, 0, -1, 2}};
            for (int[] g : gets) {
                TillNine x = busy();
                String what = "get(" + g[0] + ", " + g[1] + ", " + g[2] + ")";
                due(what, x.get(g[0], g[1], g[2]), LEAST);
                same(what, state(x), g[3]);
            }
            sentence(31, "They change nothing (FINDINGS but count() 8)");
            refused("copy(4, 0, 0, 0, 1)", x -> x.copy(4, 0, 0, 0, 1), BAD);
            refused("copy(0, 0, 3, 0, 1)", x -> x.copy(0, 0, 3, 0, 1), NULL);
            refused("copy(2, 0, 1, 0, 1)", x -> x.copy(2, 0, 1, 0, 1), STORE);
            refused("copy(2, 0, 2, 1, 4)", x -> x.copy(2, 0, 2, 1, 4), INDEX);
            refused("copy(2, 1, 2, 0, 4)", x -> x.copy(2, 1, 2, 0, 4), INDEX);
            sentence(32, "They change nothing (FINDINGS but count() 8)");
            refused("write(4)", x -> x.write(4), BAD);
            refused("write(3)", x -> x.write(3), NULL);
        }

        /* With SMALL 3 no cap binds, so that each run is a ring. */
        private static TillNine ringing() {
            TillNine x = settled(CHASE, 0, 1, 3, 9, 5, 0, 2, 4);
            hours(x, 1, 2, 3, 1, 2);
            x.turn(2, 19);
            x.sheet(1, 1, 2);
            x.lay(1, 1, 1, 6);
            x.sheet(0, 0, -1);
            return x;
        }

        private static void rings() {
            Call[] calls = {x -> x.rest(0), x -> x.rest(NONE), x -> x.bestCap(0), x -> x.bestCap(1), x -> x.always(0, 0), x -> x.always(1, 1)};
            int[] promises = {14, 14, 19, 19, 21, 21};
            for (int i = 0; i < calls.length; i++) {
                sentence(promises[i], "They change nothing (FINDINGS but count() 8)");
                TillNine x = ringing();
                due("a ring, call " + i, calls[i].on(x), promises[i] == 14 ? NOT : LONG_NOT);
                long[] got = state(x);
                long[] was = state(ringing());
                for (int k = 0; k < was.length; k++) {
                    due("a ring, call " + i + ", then of its state " + k, got[k], was[k]);
                }
            }
        }

        private static void full() {
            sentence(2, "They change nothing (FINDINGS but count() 8)");
            String text = CHASE + ";";
            TillNine x = street(text);
            TillNine y = street(text);
            while (x.count(2) < 150) {
                x.type('s');
                y.type('s');
            }
            due("type, full", x.type('1'), FULL);
            due("type, full", x.type('1'), FULL);
            long[] told = state(x);
            long[] was = state(y);
            due("its state", Arrays.equals(told, was) ? 1 : 0, 1);
        }
    }
}
