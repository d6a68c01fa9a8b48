/** For each promise of the document calls whose answers were worked out by hand. */
public final class TillNinePromises {
    private static final long NO_BAD = Long.MIN_VALUE + 2, NO_NOT = Long.MIN_VALUE + 3;
    private static final int LEAST = Integer.MIN_VALUE, MOST = Integer.MAX_VALUE;

    /* Two shops that chase one another: A (size 3, cost 9), B (size 1, cost 8); 9 buyers who bring 27.
       Shut both: A 729/64, B 243/64. A open: A 1305/128, B 243/128. B open: A 729/128, B 947/128.
       Both open: A 873/128, B -349/128. So B opens, then A, then B shuts, then A shuts, and again. */
    private static final String CHASE = "s3,9;s1,8;b1,9,-,8,9,3";

    private static int wrong = 0;
    private static int tests = 0;
    private static int promise = 0;

    private static void due(String what, long got, long want) {
        tests++;
        if (got != want) {
            wrong++;
            System.out.println("promise " + promise + ": " + what + " answered " + got + ", due is " + want);
        }
    }

    private static void type(TillNine x, String text) {
        for (int i = 0; i < text.length(); i++) {
            x.type(text.charAt(i));
        }
    }

    private static TillNine street(String text) {
        TillNine x = new TillNine();
        type(x, text);
        return x;
    }

    private static int faultOf(String text) {
        return street(text).fault();
    }

    private static void fraction(String what, long up, long low, long wantUp, long wantLow) {
        due(what + " above", up, wantUp);
        due(what + " below", low, wantLow);
    }

    public static void main(String[] args) {
        aNewObject();
        typeAndWipe();
        fault();
        shopAndSort();
        setAndHours();
        read();
        open();
        earnsByLikes();
        earnsByLightHabitAndFine();
        all();
        answer();
        rest();
        still();
        best();
        loss();
        leastFine();
        bestCap();
        edge();
        always();
        turnAndKeeps();
        week();
        weeks();
        back();
        sheetAndLose();
        layAndGet();
        copy();
        write();
        count();
        digest();
        fiveShopsInEachCall();
        System.out.println(tests + " answers looked at, " + wrong + " not as due");
        if (wrong != 0) {
            System.exit(1);
        }
    }

    private static void aNewObject() {
        promise = 1;
        TillNine x = new TillNine();
        for (int what = 0; what <= 8; what++) {
            due("count(" + what + ")", x.count(what), what == 6 ? 3 : 0);
        }
        due("wipe()", x.wipe(), 0);
        for (int s = 0; s < 4; s++) {
            due("lose", x.lose(s), -11);
        }
        due("fault()", x.fault(), -1);
        int[] first = {0, 3, 0, 0, 16, 0, 0, 0};
        for (int what = 0; what < 8; what++) {
            due("set(" + what + ", 1)", x.set(what, 1), first[what]);
        }
        for (int shop = 0; shop < 5; shop++) {
            due("hours", x.hours(shop, 1), 0);
        }
        for (int evening = 0; evening < 6; evening++) {
            due("turn", x.turn(evening, 1), 0);
        }
    }

    private static void typeAndWipe() {
        promise = 2;
        TillNine x = new TillNine();
        due("type(-1)", x.type(-1), TillNine.BAD);
        due("type(256)", x.type(256), TillNine.BAD);
        due("type(least)", x.type(LEAST), TillNine.BAD);
        due("type(0)", x.type(0), 1);
        due("type(255)", x.type(255), 2);
        for (int i = 3; i <= 150; i++) {
            due("type", x.type('s'), i);
        }
        due("type, one too many", x.type('s'), TillNine.FULL);
        due("type, bad ahead of full", x.type(256), TillNine.BAD);
        due("count(2)", x.count(2), 150);
        promise = 3;
        due("wipe()", x.wipe(), 150);
        due("wipe()", x.wipe(), 0);
        due("type behind it", x.type('s'), 1);
        TillNine y = street(CHASE);
        y.hours(1, 2);
        y.set(0, 5);
        y.wipe();
        due("shops", y.count(0), 0);
        due("sorts", y.count(1), 0);
        due("hours stay", y.hours(1, 2), 2);
        due("settings stay", y.set(0, 5), 5);
    }

    private static void fault() {
        promise = 4;
        due("empty", faultOf(""), -1);
        due("all well", faultOf("s1,0;s3,99;b3,99,1,16,16,99;s2,07;b1,1,2,0,0,1"), -1);
        due("two figures, first 0", faultOf("s1,05;b1,01,-,00,00,01"), -1);
        due("x", faultOf("x"), 0);
        due(";", faultOf(";"), 0);
        due("S", faultOf("S1,1"), 0);
        due("s", faultOf("s"), 1);
        due("s0", faultOf("s0"), 1);
        due("s4", faultOf("s4,1"), 1);
        due("s1", faultOf("s1"), 2);
        due("s11", faultOf("s11"), 2);
        due("s1,", faultOf("s1,"), 3);
        due("s1,-", faultOf("s1,-"), 3);
        due("s1,100", faultOf("s1,100"), 5);
        due("s1,1;", faultOf("s1,1;"), 5);
        due("s1,1;;", faultOf("s1,1;;"), 5);
        due("s1,1,", faultOf("s1,1,"), 4);
        due("s1,1 s", faultOf("s1,1 s"), 4);
        due("b", faultOf("b"), 1);
        due("hour 0", faultOf("b0,1,-,1,1,1"), 1);
        due("hour 4", faultOf("b4,1,-,1,1,1"), 1);
        due("many 0", faultOf("b1,0,-,1,1,1"), 3);
        due("many 0, not ended", faultOf("b1,0"), 3);
        due("many 00", faultOf("b1,00,-,1,1,1"), 3);
        due("many 100", faultOf("b1,100,-,1,1,1"), 5);
        due("likes a shop not told", faultOf("b1,1,0,1,1,1;s1,1"), 5);
        due("likes a shop told behind", faultOf("s1,1;b1,1,1,1,1,1;s1,1"), 10);
        due("likes no figure", faultOf("s1,1;b1,1,x,1,1,1"), 10);
        due("likes two figures", faultOf("s1,1;b1,1,00,1,1,1"), 11);
        due("go 17", faultOf("b1,1,-,17,1,1"), 7);
        due("go 99, a third figure", faultOf("b1,1,-,999,1,1"), 7);
        due("go 16, a third figure", faultOf("b1,1,-,160,1,1"), 9);
        due("back 17", faultOf("b1,1,-,16,17,1"), 10);
        due("worth 0", faultOf("b1,1,-,1,1,0"), 11);
        due("four commas", faultOf("b1,1,-,1,1"), 10);
        due("six commas", faultOf("b1,1,-,1,1,1,1"), 12);
        due("a sixth shop", faultOf("s1,1;s1,1;s1,1;s1,1;s1,1;s"), 25);
        String six = "b1,1,-,1,1,1;b1,1,-,1,1,1;b1,1,-,1,1,1;b1,1,-,1,1,1;b1,1,-,1,1,1;b1,1,-,1,1,1";
        due("six sorts", faultOf(six), -1);
        due("a seventh sort", faultOf(six + ";b1,1,-,1,1,1"), 78);
        due("byte 128 and more", faultOf("s1,1" + (char) 0xbb), 4);
        TillNine x = street("s1,1;b1,9,0,1,1,1;");
        due("with a fault no shops", x.count(0), 0);
        due("with a fault no sorts", x.count(1), 0);
        due("with a fault its bytes", x.count(2), 18);
        type(x, "s2,3");
        due("mended", x.fault(), -1);
        due("mended: shops", x.count(0), 2);
    }

    private static void shopAndSort() {
        promise = 5;
        TillNine x = street("s3,99;s1,0;s2,7;b3,99,-,16,0,98;b2,1,2,0,16,1");
        int[][] shops = {{3, 99, 1}, {1, 0, 1}, {2, 7, 1}};
        for (int shop = 0; shop < 3; shop++) {
            for (int what = 0; what < 3; what++) {
                due("shop(" + shop + ", " + what + ")", x.shop(shop, what), shops[shop][what]);
            }
        }
        x.set(2, 2);
        due("size 3, small 2", x.shop(0, 2), 1);
        due("size 2, small 2", x.shop(2, 2), 0);
        x.set(2, 3);
        due("size 3, small 3", x.shop(0, 2), 0);
        due("shop(3, 0)", x.shop(3, 0), -2);
        due("shop(-1, 0)", x.shop(-1, 0), -2);
        due("shop(0, 3)", x.shop(0, 3), -2);
        due("shop(0, -1)", x.shop(0, -1), -2);
        promise = 6;
        int[][] sorts = {{3, 99, -1, 16, 0, 98}, {2, 1, 2, 0, 16, 1}};
        for (int sort = 0; sort < 2; sort++) {
            for (int what = 0; what < 6; what++) {
                due("sort(" + sort + ", " + what + ")", x.sort(sort, what), sorts[sort][what]);
            }
        }
        due("sort(2, 0)", x.sort(2, 0), -2);
        due("sort(-1, 0)", x.sort(-1, 0), -2);
        due("sort(0, 6)", x.sort(0, 6), -2);
        due("sort(0, -1)", x.sort(0, -1), -2);
    }

    private static void setAndHours() {
        promise = 7;
        TillNine x = new TillNine();
        int[] top = {16, 3, 3, 999, 16, 8, 8, 8};
        for (int what = 0; what < 8; what++) {
            x.set(what, 0);
            due("set, too much", x.set(what, top[what] + 1), -2);
            due("set, too little", x.set(what, -1), -2);
            due("set, most", x.set(what, top[what]), 0);
            due("set, what it was", x.set(what, 1), top[what]);
        }
        due("set(8, 0)", x.set(8, 0), -2);
        due("set(-1, 0)", x.set(-1, 0), -2);
        due("count(5)", x.count(5), 3);
        due("count(6)", x.count(6), 1);
        promise = 8;
        for (int shop = 0; shop < 5; shop++) {
            due("hours, first", x.hours(shop, 3), 0);
            due("hours, too much", x.hours(shop, 4), -2);
            due("hours, too little", x.hours(shop, -1), -2);
            due("hours, what they were", x.hours(shop, shop % 4), 3);
            due("hours, again", x.hours(shop, shop % 4), shop % 4);
        }
        due("hours(5, 0)", x.hours(5, 0), -2);
        due("hours(-1, 0)", x.hours(-1, 0), -2);
    }

    private static void read() {
        promise = 9;
        TillNine x = new TillNine();
        due("read(0), lost", x.read(0), -11);
        due("read(-1)", x.read(-1), -2);
        due("read(4)", x.read(4), -2);
        x.sheet(0, 0, 7);
        for (int i = 0; i < 7; i++) {
            x.lay(0, 0, i, i % 4);
        }
        due("read, five at most", x.read(0), 5);
        for (int shop = 0; shop < 5; shop++) {
            due("hours after it", x.hours(shop, 3), shop % 4);
        }
        x.sheet(1, 2, 5);
        x.lay(1, 2, 0, 2);
        x.lay(1, 2, 1, 4);
        due("read up to a 4", x.read(1), 1);
        due("that was read", x.hours(0, 3), 2);
        due("that was not", x.hours(1, 3), 3);
        x.lay(1, 2, 0, -1);
        due("read up to a -1", x.read(1), 0);
        x.sheet(2, 1, 0);
        due("read nothing", x.read(2), 0);
        x.sheet(2, 1, 2);
        due("read two", x.read(2), 2);
    }

    private static void open() {
        promise = 10;
        TillNine x = street("s1,1;s1,1;s1,1");
        for (int shop = 0; shop < 5; shop++) {
            x.hours(shop, Math.min(shop + 1, 3));
        }
        due("open(1)", x.open(1), 7);
        due("open(2)", x.open(2), 6);
        due("open(3)", x.open(3), 4);
        due("open(0)", x.open(0), -2);
        due("open(4)", x.open(4), -2);
        due("open(-1)", x.open(-1), -2);
        x.wipe();
        due("open(1) without shops", x.open(1), 0);
    }

    private static void earnsByLikes() {
        promise = 11;
        TillNine x = street("s1,0;s3,0;s2,5;b1,16,0,4,8,2");
        fraction("liked, all shut", x.earns(0, 0), x.earns(0, 1), 16, 1);
        fraction("others, all shut", x.earns(1, 0), x.earns(1, 1), 0, 1);
        x.hours(1, 1);
        x.hours(2, 3);
        // 4 of 16 go, parted 3 to 2; of the 12 others 6 come ahead of six
        fraction("liked is shut", x.earns(0, 0), x.earns(0, 1), 12, 1);
        fraction("of those open, size 3", x.earns(1, 0), x.earns(1, 1), 24, 5);
        fraction("of those open, size 2, less 15", x.earns(2, 0), x.earns(2, 1), -59, 5);
        x.hours(0, 1);
        fraction("liked is open", x.earns(0, 0), x.earns(0, 1), 32, 1);
        fraction("nothing for others", x.earns(1, 0), x.earns(1, 1), 0, 1);
        TillNine y = street(CHASE);
        fraction("A, both shut", y.earns(0, 0), y.earns(0, 1), 729, 64);
        fraction("B, both shut", y.earns(1, 0), y.earns(1, 1), 243, 64);
        y.hours(0, 1);
        fraction("A, A open", y.earns(0, 0), y.earns(0, 1), 1305, 128);
        fraction("B, A open", y.earns(1, 0), y.earns(1, 1), 243, 128);
        y.hours(1, 1);
        fraction("A, both open", y.earns(0, 0), y.earns(0, 1), 873, 128);
        fraction("B, both open", y.earns(1, 0), y.earns(1, 1), -349, 128);
        due("earns(2, 0)", y.earns(2, 0), NO_BAD);
        due("earns(-1, 0)", y.earns(-1, 0), NO_BAD);
        due("earns(0, 2)", y.earns(0, 2), NO_BAD);
        due("earns(0, -1)", y.earns(0, -1), NO_BAD);
    }

    private static void earnsByLightHabitAndFine() {
        TillNine x = street("s1,0;s2,1;b2,10,-,16,0,3");
        x.set(0, 8);
        TillNine dark = street("s1,0;b2,10,-,16,16,3");
        dark.set(0, 8);
        fraction("no light draws none", dark.earns(0, 0), dark.earns(0, 1), 30, 1);
        x.hours(0, 2);
        fraction("one light draws none", x.earns(0, 0), x.earns(0, 1), 30, 1);
        x.hours(1, 3);
        // 10 times 24 by 16 are 15 who bring 45, parted 1 to 2; three hours cost 3
        fraction("two lights, size 1", x.earns(0, 0), x.earns(0, 1), 15, 1);
        fraction("two lights, size 2", x.earns(1, 0), x.earns(1, 1), 27, 1);
        x.set(6, 4);
        fraction("habit of the hour", x.earns(0, 0), x.earns(0, 1), 45, 2);
        x.set(5, 8);
        x.set(7, 8);
        fraction("habit of other hours", x.earns(0, 0), x.earns(0, 1), 45, 2);
        x.set(6, 0);
        x.set(3, 7);
        x.set(4, 3);
        fraction("till nine, cap 3", x.earns(1, 0), x.earns(1, 1), 27, 1);
        x.set(1, 2);
        fraction("till nine, cap 2", x.earns(1, 0), x.earns(1, 1), 27 * 16 - 21, 16);
        fraction("till eight, cap 2", x.earns(0, 0), x.earns(0, 1), 15, 1);
        x.set(2, 2);
        fraction("small enough", x.earns(1, 0), x.earns(1, 1), 27, 1);
        x.set(1, 1);
        x.set(2, 1);
        fraction("only the big one is bound", x.earns(0, 0), x.earns(0, 1), 15, 1);
        // the most there can be stays exact
        TillNine y = street("s3,0;s3,0;s3,0;s3,0;s1,0;b1,99,-,16,0,99;b1,99,-,16,0,99;b1,99,-,16,0,99;b1,99,-,16,0,99;b1,99,-,16,0,99;b1,99,-,16,0,99");
        for (int shop = 0; shop < 5; shop++) {
            y.hours(shop, 1);
        }
        y.set(0, 16);
        y.set(5, 8);
        fraction("very much, size 3", y.earns(0, 0), y.earns(0, 1), 1764180, 13);
        fraction("very much, size 1", y.earns(4, 0), y.earns(4, 1), 588060, 13);
        due("very much together", y.all(0, 0), 588060);
    }

    private static void all() {
        promise = 12;
        TillNine x = street(CHASE);
        fraction("together, shut", x.all(0, 0), x.all(0, 1), 243, 16);
        fraction("served, shut", x.all(1, 0), x.all(1, 1), 81, 16);
        x.hours(1, 2);
        fraction("together, B till eight", x.all(0, 0), x.all(0, 1), 163, 32);
        fraction("served, B till eight", x.all(1, 0), x.all(1, 1), 225, 32);
        x.set(3, 1);
        x.set(1, 1);
        fraction("together, less a fine", x.all(0, 0), x.all(0, 1), 131, 32);
        due("all(2, 0)", x.all(2, 0), NO_BAD);
        due("all(-1, 0)", x.all(-1, 0), NO_BAD);
        due("all(0, 2)", x.all(0, 2), NO_BAD);
        due("all(1, -1)", x.all(1, -1), NO_BAD);
        TillNine y = street("b1,9,-,16,16,9");
        fraction("no shops, together", y.all(0, 0), y.all(0, 1), 0, 1);
        fraction("no shops, served", y.all(1, 0), y.all(1, 1), 0, 1);
    }

    private static void answer() {
        promise = 13;
        TillNine x = street(CHASE);
        due("A, B shut", x.answer(0), 0);
        due("B, A shut", x.answer(1), 1);
        x.hours(0, 3);
        due("B, A open", x.answer(1), 0);
        x.hours(1, 3);
        due("A, B open", x.answer(0), 1);
        due("answer(2)", x.answer(2), -2);
        due("answer(-1)", x.answer(-1), -2);
        // of like ones the fewest: an hour that costs what it brings
        TillNine y = street("s1,9;b1,9,0,0,0,1;b3,18,0,0,0,1");
        due("like ones", y.answer(0), 0);
        y.hours(0, 3);
        due("like ones, whatever it has", y.answer(0), 0);
        y.set(7, 1);
        due("more at nine", y.answer(0), 3);
        y.set(3, 2);
        due("a fine without a cap", y.answer(0), 3);
        y.set(1, 2);
        due("a fine that is less", y.answer(0), 3);
        y.set(3, 3);
        due("a fine that is more", y.answer(0), 0);
        y.set(4, 8);
        due("a fine half seen", y.answer(0), 3);
        due("free, without buyers", street("s1,0").answer(0), 0);
        // 8 would come ahead of six, 16 if it is open; by habit 12 and 24
        TillNine z = street("s1,10;b1,16,0,0,8,1");
        due("8 more for 10", z.answer(0), 0);
        z.set(5, 4);
        due("12 more for 10", z.answer(0), 1);
        z.set(5, 2);
        due("10 more for 10", z.answer(0), 0);
    }

    private static void rest() {
        promise = 14;
        TillNine x = street(CHASE);
        due("a ring", x.rest(0), TillNine.NOT);
        due("a ring", x.rest(-1), TillNine.NOT);
        due("bad ahead of a ring", x.rest(2), -2);
        due("bad ahead of a ring", x.rest(-2), -2);
        due("hours stay as they are", x.count(3), 0);
        // alone each opens for its own; the second follows only when the first does
        TillNine y = street("s1,2;s1,3;b1,3,0,0,0,1;b1,2,1,0,0,1");
        y.hours(1, 1);
        due("rounds", y.rest(-1), 1);
        due("first", y.rest(0), 1);
        due("second", y.rest(1), 0);
        y.set(0, 16);
        due("lights draw it", y.rest(1), 1);
        due("one round in which some did", y.rest(-1), 1);
        y.hours(0, 1);
        due("at rest", y.rest(-1), 0);
        // a shop that earns no more by its answer stays
        TillNine z = street("s1,0");
        z.hours(0, 2);
        due("stays", z.rest(0), 2);
        due("no round", z.rest(-1), 0);
        due("its answer is another", z.answer(0), 0);
        due("without shops", new TillNine().rest(-1), 0);
        due("without shops", new TillNine().rest(0), -2);
    }

    private static void still() {
        promise = 15;
        TillNine x = street(CHASE);
        due("none in a ring", x.still(-1, -1), 0);
        due("none in a ring", x.still(0, 0), -1);
        // free hours without buyers: all sixteen, the first shop's compared first
        TillNine y = street("s1,0;s2,0");
        due("how many", y.still(-1, -1), 16);
        for (int i = 0; i < 16; i++) {
            due("first of " + i, y.still(i, 0), i / 4);
            due("second of " + i, y.still(i, 1), i % 4);
        }
        due("beyond", y.still(16, 0), -1);
        due("far beyond", y.still(MOST, 1), -1);
        due("still(0, -1)", y.still(0, -1), -2);
        due("still(-1, 0)", y.still(-1, 0), -2);
        due("still(-2, 0)", y.still(-2, 0), -2);
        due("still(-2, -1)", y.still(-2, -1), -2);
        due("still(-1, -2)", y.still(-1, -2), -2);
        due("still(0, 2)", y.still(0, 2), -2);
        due("bad ahead of beyond", y.still(99, 2), -2);
        due("without shops one", new TillNine().still(-1, -1), 1);
        due("without shops no shop", new TillNine().still(0, 0), -2);
        // both open by lights or both shut
        TillNine z = street("s1,6;s1,6;b1,5,0,0,0,1;b1,5,1,0,0,1");
        z.set(0, 16);
        due("two of them", z.still(-1, -1), 2);
        due("first, first shop", z.still(0, 0), 0);
        due("second, first shop", z.still(1, 0), 1);
        due("second, second shop", z.still(1, 1), 1);
    }

    private static void best() {
        promise = 16;
        TillNine x = street(CHASE);
        x.hours(0, 3);
        due("for shops, A", x.best(0, 0), 0);
        due("for shops, B", x.best(0, 1), 0);
        due("for buyers, A", x.best(1, 0), 0);
        due("for buyers, B: the first of like ones", x.best(1, 1), 1);
        due("best(2, 0)", x.best(2, 0), -2);
        due("best(-1, 0)", x.best(-1, 0), -2);
        due("best(0, 2)", x.best(0, 2), -2);
        due("best(0, -1)", x.best(0, -1), -2);
        due("hours stay as they are", x.count(3), 3);
        // fines count for shops, not for buyers
        TillNine y = street("s1,1;b2,9,0,0,0,1");
        due("till eight", y.best(0, 0), 2);
        y.set(1, 1);
        y.set(3, 8);
        due("a fine for shops", y.best(0, 0), 0);
        due("a fine for buyers", y.best(1, 0), 2);
    }

    private static void loss() {
        promise = 17;
        TillNine x = street(CHASE);
        fraction("none", x.loss(0), x.loss(1), 0, 1);
        x.hours(1, 2);
        fraction("B till eight", x.loss(0), x.loss(1), 323, 32);
        due("loss(2)", x.loss(2), NO_BAD);
        due("loss(-1)", x.loss(-1), NO_BAD);
        fraction("without shops", new TillNine().loss(0), new TillNine().loss(1), 0, 1);
    }

    private static void leastFine() {
        promise = 18;
        TillNine x = street(CHASE);
        due("cap 3", x.leastFine(), 0);
        x.set(1, 0);
        // B would gain 461/128
        due("cap 0", x.leastFine(), 4);
        x.set(3, 500);
        due("whatever the fine is", x.leastFine(), 4);
        x.set(4, 8);
        due("half seen", x.leastFine(), 8);
        x.set(4, 1);
        due("hardly seen", x.leastFine(), 58);
        x.set(4, 0);
        due("never seen", x.leastFine(), -1);
        x.set(2, 1);
        due("never seen, none would gain", x.leastFine(), 0);
        x.hours(1, 2);
        due("never seen, B free and open", x.leastFine(), -1);
        x.set(4, 16);
        // A would gain 144/128
        due("B free and open", x.leastFine(), 2);
        x.set(2, 3);
        due("none is bound", x.leastFine(), 0);
        // hours as they are, but the cap at most: 20 at seven, 50 at nine
        TillNine y = street("s1,5;b1,20,0,0,0,1;b3,50,0,0,0,1");
        y.set(1, 1);
        due("from six", y.leastFine(), 55);
        y.hours(0, 1);
        due("from seven", y.leastFine(), 40);
        y.hours(0, 3);
        due("from nine, cut to seven", y.leastFine(), 40);
        TillNine z = street("s1,0;b1,37,0,0,0,27");
        z.set(1, 0);
        due("999 is enough", z.leastFine(), 999);
        z.set(4, 15);
        due("999 is too little", z.leastFine(), -1);
        due("without shops", new TillNine().leastFine(), 0);
    }

    private static void bestCap() {
        promise = 19;
        TillNine x = street(CHASE);
        due("cap 0, all others a ring", x.bestCap(2), 0);
        fraction("how much", x.bestCap(0), x.bestCap(1), 243, 16);
        x.set(2, 1);
        // A bound: only cap 0 rests, with B open
        due("B free", x.bestCap(2), 0);
        fraction("B free, how much", x.bestCap(0), x.bestCap(1), 419, 32);
        x.set(2, 3);
        due("none bound: a ring", x.bestCap(2), TillNine.NONE);
        due("none bound: above", x.bestCap(0), NO_NOT);
        due("none bound: below", x.bestCap(1), NO_NOT);
        due("bestCap(3)", x.bestCap(3), NO_BAD);
        due("bestCap(-1)", x.bestCap(-1), NO_BAD);
        TillNine y = street("s1,5;b1,20,0,0,0,1;b3,50,0,0,0,1");
        due("till nine", y.bestCap(2), 3);
        due("till nine, how much", y.bestCap(0), 55);
        y.set(1, 0);
        y.set(3, 999);
        y.hours(0, 2);
        due("whatever law and hours are", y.bestCap(2), 3);
        due("no fine is paid", y.bestCap(0), 55);
        // what an evening takes from the day is lost to both
        TillNine z = street("s1,5;s1,5;b1,16,-,16,16,1");
        due("best shut", z.bestCap(2), 0);
        due("best shut, how much", z.bestCap(0), 16);
        due("of like ones the least", new TillNine().bestCap(2), 0);
    }

    private static void edge() {
        promise = 20;
        due("as much as it brings", street("s1,10;b1,9,0,0,0,1").edge(0), 9);
        due("no more than 0", street("s1,10").edge(0), 0);
        due("99", street("s1,0;b1,33,0,0,0,3").edge(0), 99);
        due("none", street("s1,0;b1,50,0,0,0,2").edge(0), -1);
        due("over three hours", street("s1,99;b3,10,0,0,0,1").edge(0), 4);
        TillNine x = street("s1,0;s1,1;b2,30,0,0,4,1;b1,1,1,0,0,1");
        due("less what came ahead of six", x.edge(0), 12);
        due("by hours of the others as they are", x.edge(1), 1);
        x.set(3, 5);
        x.set(1, 1);
        due("a fine", x.edge(0), 9);
        due("edge(2)", x.edge(2), -2);
        due("edge(-1)", x.edge(-1), -2);
    }

    private static void always() {
        promise = 21;
        TillNine x = street(CHASE);
        due("a ring", x.always(0, 0), NO_NOT);
        due("a ring", x.always(1, 1), NO_NOT);
        due("bad ahead of a ring", x.always(2, 0), NO_BAD);
        due("always(-1, 0)", x.always(-1, 0), NO_BAD);
        due("always(0, 2)", x.always(0, 2), NO_BAD);
        due("always(0, -1)", x.always(0, -1), NO_BAD);
        // open till nine brings nothing at eight and nine
        TillNine y = street("s1,5;b1,20,0,0,0,1");
        fraction("two hours too many", y.always(0, 0), y.always(0, 1), -10, 1);
        y.set(1, 2);
        y.set(3, 3);
        y.set(4, 8);
        fraction("and a fine", y.always(0, 0), y.always(0, 1), -23, 2);
        due("hours stay as they are", y.count(3), 0);
        // being there first keeps the other one out: of 14 that come at nine a half is too little for its 9
        TillNine z = street("s1,4;s1,3;b3,14,-,16,0,1");
        z.hours(1, 3);
        due("it stays shut", z.rest(0), 0);
        fraction("the other one shuts", z.always(0, 0), z.always(0, 1), 2, 1);
    }

    private static void turnAndKeeps() {
        promise = 22;
        TillNine x = street("s1,5;b3,9,0,0,0,9");
        for (int evening = 0; evening < 6; evening++) {
            due("turn, first", x.turn(evening, 31), 0);
            due("turn, what it was", x.turn(evening, evening), 31);
        }
        due("turn(6, 0)", x.turn(6, 0), -2);
        due("turn(-1, 0)", x.turn(-1, 0), -2);
        due("turn(0, 32)", x.turn(0, 32), -2);
        due("turn(0, -1)", x.turn(0, -1), -2);
        due("count(4)", x.count(4), 15);
        promise = 23;
        due("evening 0 is shut", x.keeps(0), 0);
        due("its shop", x.keeps(1), 0);
        for (int evening = 0; evening < 6; evening++) {
            x.turn(evening, 1 + 2 * evening);
        }
        due("all keep", x.keeps(0), -1);
        due("all keep", x.keeps(1), -1);
        x.turn(4, 30);
        due("evening 4", x.keeps(0), 4);
        x.set(1, 2);
        x.set(3, 67);
        due("a fine", x.keeps(0), 0);
        due("keeps(2)", x.keeps(2), -2);
        due("keeps(-1)", x.keeps(-1), -2);
        TillNine y = street(CHASE);
        due("the first shop that would: B", y.keeps(1), 1);
        y.turn(0, 2);
        due("the first shop that would: A", y.keeps(1), 0);
        due("without shops", new TillNine().keeps(0), -1);
    }

    private static void week() {
        promise = 24;
        TillNine x = street("s1,5;b3,9,0,0,0,9");
        fraction("all shut", x.week(0, 0), x.week(0, 1), 0, 1);
        x.hours(0, 3);
        fraction("hours as they are do not matter", x.week(0, 0), x.week(0, 1), 0, 1);
        x.turn(1, 1);
        x.turn(5, 3);
        fraction("two evenings", x.week(0, 0), x.week(0, 1), 132, 1);
        TillNine y = street(CHASE);
        y.turn(0, 1);
        y.turn(1, 2);
        y.turn(2, 3);
        // A: 1305/128 less 18, 729/128, 873/128 less 18, and three times 1458/128
        fraction("A", y.week(0, 0), y.week(0, 1), (1305 + 729 + 873 + 3 * 1458 - 36 * 128), 128);
        fraction("B", y.week(1, 0), y.week(1, 1), (243 + 947 - 349 + 3 * 486 - 32 * 128), 128);
        due("week(2, 0)", y.week(2, 0), NO_BAD);
        due("week(-1, 0)", y.week(-1, 0), NO_BAD);
        due("week(0, 2)", y.week(0, 2), NO_BAD);
        due("week(0, -1)", y.week(0, -1), NO_BAD);
    }

    private static void weeks() {
        promise = 25;
        TillNine x = street(CHASE);
        x.hours(1, 2);
        x.hours(4, 3);
        x.set(7, 5);
        int[] first = {0, 2, 0, 0, 3, 0, 0, 5};
        int[] second = {0, 2, 0, 0, 3, 1, 1, 4};
        for (int which = 0; which < 8; which++) {
            due("after none, " + which, x.weeks(0, which), first[which]);
            due("after a ring, " + which, x.weeks(1, which), second[which]);
        }
        due("nothing changes", x.count(5), 5);
        x.hours(0, 3);
        x.hours(1, 0);
        due("after a ring A is as it was", x.weeks(1, 0), 3);
        due("weeks(51, 0)", x.weeks(51, 0), -2);
        due("weeks(-1, 0)", x.weeks(-1, 0), -2);
        due("weeks(0, 8)", x.weeks(0, 8), -2);
        due("weeks(0, -1)", x.weeks(0, -1), -2);
        // the free shop stays open; its neighbour costs 10 and brings 7 times (8 and habit) by 8
        TillNine y = street("s1,10;s1,0;b1,7,0,0,0,1");
        y.hours(1, 1);
        due("4 weeks: not yet open", y.weeks(4, 0), 0);
        due("4 weeks: habit", y.weeks(4, 5), 4);
        due("5 weeks: open", y.weeks(5, 0), 1);
        due("8 weeks", y.weeks(8, 5), 8);
        due("9 weeks", y.weeks(9, 5), 8);
        due("50 weeks", y.weeks(50, 0), 1);
        TillNine z = new TillNine();
        z.set(5, 2);
        due("habit goes", z.weeks(1, 5), 1);
        due("habit is gone", z.weeks(3, 5), 0);
    }

    private static void back() {
        promise = 26;
        int[] many = {5, 6, 7, 8, 9, 10, 11};
        int[] first = {-1, 6, 4, 3, 1, 1, 0};
        for (int i = 0; i < many.length; i++) {
            TillNine x = street("s1,10;s1,0;b1," + many[i] + ",0,0,0,1");
            x.hours(1, 1);
            due("many " + many[i], x.back(), first[i]);
        }
        due("without shops", new TillNine().back(), -1);
        due("a ring", street(CHASE).back(), 0);
    }

    private static void sheetAndLose() {
        promise = 27;
        TillNine x = new TillNine();
        due("sheet(-1, 0, 0)", x.sheet(-1, 0, 0), -2);
        due("sheet(4, 0, 0)", x.sheet(4, 0, 0), -2);
        due("sheet(0, -1, 0)", x.sheet(0, -1, 0), -2);
        due("sheet(0, 3, 0)", x.sheet(0, 3, 0), -2);
        due("sheet(0, 0, 61)", x.sheet(0, 0, 61), -2);
        due("bad ahead of size", x.sheet(4, 0, -1), -2);
        due("bad form ahead of size", x.sheet(0, 3, -1), -2);
        due("no finding yet", x.count(8), 0);
        due("sheet(0, 0, -1)", x.sheet(0, 0, -1), -15);
        due("finding 5", x.count(8), 5);
        due("it is still lost", x.lose(0), -11);
        due("finding 1", x.count(8), 1);
        due("sheet(0, 0, 60)", x.sheet(0, 0, 60), 60);
        x.lay(0, 0, 59, 9);
        due("a new row", x.sheet(0, 0, 60), 60);
        due("0 at first", x.get(0, 0, 59), 0);
        due("another form", x.sheet(0, 2, 0), 0);
        due("a size below 0 leaves it", x.sheet(0, 0, LEAST), -15);
        promise = 28;
        due("lose(0)", x.lose(0), 0);
        due("lose(0) again", x.lose(0), -11);
        x.sheet(3, 1, 7);
        due("lose(3)", x.lose(3), 7);
        due("lose(4)", x.lose(4), -2);
        due("lose(-1)", x.lose(-1), -2);
    }

    private static void layAndGet() {
        promise = 29;
        TillNine x = new TillNine();
        due("bad", x.lay(4, 0, 0, 0), -2);
        due("bad", x.lay(-1, 0, 0, 0), -2);
        due("bad form ahead of null", x.lay(0, 3, 0, 0), -2);
        due("null", x.lay(0, 0, 0, 0), -11);
        for (int form = 0; form < 3; form++) {
            x.sheet(form, form, 2);
            due("cast", x.lay(form, (form + 1) % 3, 0, 0), -13);
            due("cast ahead of index", x.lay(form, (form + 1) % 3, 9, 0), -13);
            due("index", x.lay(form, form, 2, 0), -12);
            due("index", x.lay(form, form, -1, 0), -12);
            due("lay", x.lay(form, form, 1, 0x12348081), 1);
        }
        promise = 30;
        due("a byte", x.get(0, 0, 1), -127);
        due("a short", x.get(1, 1, 1), -32639);
        due("an int", x.get(2, 2, 1), 0x12348081);
        due("the other item", x.get(2, 2, 0), 0);
        x.lay(0, 0, 0, 255);
        due("255 as a byte", x.get(0, 0, 0), -1);
        x.lay(1, 1, 0, 32767);
        due("the most short", x.get(1, 1, 0), 32767);
        due("null", x.get(3, 0, 0), LEAST);
        due("finding 1", x.count(8), 1);
        due("cast", x.get(0, 1, 9), LEAST);
        due("finding 3", x.count(8), 3);
        due("index", x.get(0, 0, 2), LEAST);
        due("finding 2", x.count(8), 2);
        x.get(3, 0, 0);
        due("bad sheet", x.get(4, 0, 0), LEAST);
        due("bad form", x.get(0, 3, 0), LEAST);
        due("bad is no finding", x.count(8), 1);
    }

    private static void copy() {
        promise = 31;
        TillNine x = new TillNine();
        x.sheet(0, 0, 4);
        x.sheet(1, 0, 3);
        x.sheet(2, 1, 4);
        for (int i = 0; i < 4; i++) {
            x.lay(0, 0, i, 10 + i);
        }
        due("bad", x.copy(4, 0, 0, 0, 0), -2);
        due("bad ahead of null", x.copy(3, 0, -1, 0, 0), -2);
        due("null, s", x.copy(3, 0, 0, 0, 0), -11);
        due("null, t", x.copy(0, 0, 3, 0, 0), -11);
        due("store", x.copy(0, 0, 2, 0, 1), -14);
        due("store ahead of index", x.copy(0, 9, 2, 0, -1), -14);
        due("index: i", x.copy(0, -1, 1, 0, 1), -12);
        due("index: j", x.copy(0, 0, 1, -1, 1), -12);
        due("index: n", x.copy(0, 0, 1, 0, -1), -12);
        due("index: not so many in s", x.copy(0, 3, 1, 0, 2), -12);
        due("index: not so many in t", x.copy(0, 0, 1, 0, 4), -12);
        due("index: n 0, i above", x.copy(0, 5, 1, 0, 0), -12);
        due("index: n 0, j above", x.copy(0, 0, 1, 4, 0), -12);
        due("index: very many", x.copy(0, 1, 1, 1, MOST), -12);
        due("index: very far", x.copy(0, MOST, 1, 0, MOST), -12);
        due("finding 2", x.count(8), 2);
        due("n 0 at the ends", x.copy(0, 4, 1, 3, 0), 1);
        due("two items", x.copy(0, 1, 1, 1, 2), 1);
        int[] one = {0, 11, 12};
        for (int i = 0; i < 3; i++) {
            due("item " + i, x.get(1, 0, i), one[i]);
        }
        due("onto itself, behind", x.copy(0, 0, 0, 1, 3), 1);
        int[] self = {10, 10, 11, 12};
        for (int i = 0; i < 4; i++) {
            due("item " + i, x.get(0, 0, i), self[i]);
        }
        due("onto itself, ahead", x.copy(0, 1, 0, 0, 3), 1);
        int[] again = {10, 11, 12, 12};
        for (int i = 0; i < 4; i++) {
            due("item " + i, x.get(0, 0, i), again[i]);
        }
    }

    private static void write() {
        promise = 32;
        TillNine x = street("s1,5;s1,5;s1,5;b1,9,0,0,0,9;b3,9,1,0,0,9");
        due("bad", x.write(4), -2);
        due("bad", x.write(-1), -2);
        due("null", x.write(0), -11);
        x.sheet(0, 0, 5);
        x.lay(0, 0, 3, 7);
        due("as many as shops", x.write(0), 3);
        int[] want = {1, 3, 0, 7, 0};
        for (int i = 0; i < 5; i++) {
            due("item " + i, x.get(0, 0, i), want[i]);
        }
        x.sheet(1, 2, 1);
        due("as many as items", x.write(1), 1);
        due("item 0", x.get(1, 2, 0), 1);
        due("hours stay as they are", x.count(3), 0);
        x.wipe();
        due("no shops", x.write(0), 0);
    }

    private static void count() {
        promise = 33;
        TillNine x = street("s1,5;s1,5;b1,9,0,0,0,9;b3,98,1,0,0,9;b3,97,1,0,0,9");
        for (int shop = 0; shop < 5; shop++) {
            x.hours(shop, 3 - shop % 2);
        }
        for (int evening = 0; evening < 6; evening++) {
            x.turn(evening, 31 - evening);
        }
        x.set(1, 2);
        x.set(5, 1);
        x.set(6, 2);
        x.set(7, 8);
        x.lose(0);
        int[] want = {2, 3, 50, 5, 171, 11, 2, 204, 1};
        for (int what = 0; what <= 8; what++) {
            due("count(" + what + ")", x.count(what), want[what]);
        }
        due("count(9)", x.count(9), -2);
        due("count(-1)", x.count(-1), -2);
    }

    private static void digest() {
        promise = 34;
        TillNine x = new TillNine();
        due("empty", x.digest(), fold(0, 0, 0, 0, 0, 0, 3, 0, -1, 0, 1, 0, 1, 0, 1, 0, -1, -1, 0, 0, 0, 0, 0, 0, 0, 0, -1));
        TillNine y = street(CHASE);
        y.hours(1, 2);
        y.hours(4, 3);
        y.set(1, 0);
        y.set(4, 8);
        y.set(7, 2);
        y.turn(0, 2);
        y.lose(0);
        // two weeks of a ring with B till eight, then hour 1 is loved enough for A to stay open alone
        due("a ring", y.digest(), fold(2, 1, 22, 2, 2, 2, 0, 9, -1,
            729, 128, 1, -3, 0, 0, -77, 128, 1, -3, 0, 1,
            163, 32, 225, 32, -3, 0, 8, 0, 0,
            1, 0, 0, 0, 3, 5, 0, 0, 0));
        TillNine five = fiveShops();
        five.turn(0, 16);
        five.turn(1, 20);
        // shop 4 earns 99 less 3 at nine; shop 2 half of 20 ahead of six, or 20 less 1; others are free and idle
        due("five shops", five.digest(), fold(5, 2, 52, 0, 36, 0, 3, 31, -1,
            0, 1, 0, 0, 0, 0, 0, 1, 0, 0, 0, 0, 20, 1, 1, 1, 1, 1, 0, 1, 0, 0, 0, 0, 0, 1, 3, 3, 3, 3,
            20, 1, 10, 1, 1, 64, 0, 0, 2, 0, 0, 1, 0, 3, 5, 5, 5, 0));
        TillNine z = street("s1");
        due("a fault", z.digest(), fold(0, 0, 2, 0, 0, 0, 3, 0, 2, 0, 1, 0, 1, 0, 1, 0, -1, -1, 0, 0, 0, 0, 0, 0, 0, 0, -1));
    }

    private static TillNine fiveShops() {
        return street("s1,0;s1,0;s3,1;s1,0;s2,1;b3,11,4,0,0,9;b1,20,2,0,8,2");
    }

    private static void fiveShopsInEachCall() {
        promise = 0;
        TillNine x = fiveShops();
        int[] answers = {0, 0, 1, 0, 3};
        x.sheet(0, 0, 5);
        due("write", x.write(0), 5);
        for (int shop = 0; shop < 5; shop++) {
            due("answer", x.answer(shop), answers[shop]);
            due("written", x.get(0, 0, shop), answers[shop]);
            due("rest", x.rest(shop), answers[shop]);
            due("still, the first", x.still(0, shop), answers[shop]);
            due("still, the last", x.still(63, shop), new int[] {3, 3, 1, 3, 3}[shop]);
            due("best", x.best(0, shop), answers[shop]);
            due("edge", x.edge(shop), new int[] {0, 0, 20, 0, 33}[shop]);
            due("always", x.always(shop, 0), new int[] {0, 0, -2, 0, 0}[shop]);
            due("week", x.week(shop, 0), new int[] {0, 0, 120, 0, 0}[shop]);
            due("weeks", x.weeks(50, shop), answers[shop]);
        }
        due("loss", x.loss(0), 115);
        due("back", x.back(), 0);
        due("read", x.read(0), 5);
        due("open(3)", x.open(3), 16);
        due("together", x.all(0, 0), 135);
        x.set(1, 0);
        due("least fine", x.leastFine(), 96);
        due("best cap", x.bestCap(2), 3);
        due("best cap, how much", x.bestCap(0), 135);
        due("keeps", x.keeps(1), 2);
    }

    private static long fold(long... told) {
        long h = 17;
        for (long v : told) {
            h = 31 * h + v;
        }
        return h;
    }
}
