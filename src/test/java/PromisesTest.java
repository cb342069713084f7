import java.util.NoSuchElementException;

/** Each promise by itself: ordinary calls, the edges that the document names, and wrong calls. */
public final class PromisesTest {
    private static int wrong = 0;
    private static String part = "";

    private interface Call {
        long run();
    }

    private static final int NONE = LendHouse.NONE;
    private static final String INDEX = "IndexOutOfBoundsException";
    private static final String ARGUMENT = "IllegalArgumentException";
    private static final String STATE = "IllegalStateException";
    private static final String SUPPORT = "UnsupportedOperationException";
    private static final String ELEMENT = "NoSuchElementException";

    private static void due(String call, long want, long got) {
        if (got != want) {
            wrong++;
            System.out.println(part + ": " + call + " answered " + got + ", due is " + want);
        }
    }

    private static void yes(String call, boolean got) {
        due(call, 1, got ? 1 : 0);
    }

    private static void no(String call, boolean got) {
        due(call, 0, got ? 1 : 0);
    }

    private static void thrown(String call, String want, Call c) {
        String got;
        try {
            got = "answer " + c.run();
        } catch (RuntimeException e) {
            got = e.getClass().getSimpleName();
        }
        if (!got.equals(want)) {
            wrong++;
            System.out.println(part + ": " + call + " gave " + got + ", due is " + want);
        }
    }

    private static int asBytes(String text, int at) {
        int n = 0;
        for (int i = at; i < at + 4; i++) {
            n = n << 8 | (i < text.length() ? text.charAt(i) & 255 : 0);
        }
        return n;
    }

    private static void write(LendHouse x, String text) {
        x.end(0);
        for (int at = 0; at < text.length(); at += 20) {
            x.feed(asBytes(text, at), asBytes(text, at + 4), asBytes(text, at + 8), asBytes(text, at + 12),
                    asBytes(text, at + 16));
        }
        x.end(text.length());
    }

    private static int act(LendHouse x, int week, String text) {
        write(x, text);
        return x.act(week);
    }

    private static void faultOf(String text, int want) {
        LendHouse x = new LendHouse();
        write(x, text);
        int before = x.count(3);
        try {
            x.act(0);
            due("[" + text + "] fault()", want, x.fault());
        } catch (IllegalArgumentException e) {
            due("[" + text + "] fault() behind a throw", want, x.fault());
            due("acts then", before, x.count(3));
        }
    }

    /** A house with so many crates of SORT 0 lent to LAND 1 as LOT 1 (LOT 0 was the STOCK), at WEEK 1. */
    private static LendHouse lent(int crates, String text) {
        LendHouse x = new LendHouse();
        act(x, 0, text);
        x.order(0, crates);
        x.ask(1, 0, crates, 0);
        x.weeks(1);
        due("allot in lent()", crates, x.allot(0));
        return x;
    }

    /** As lent(), then all landed in LAND 1 at WEEK 2 by SHIP 0. */
    private static LendHouse landed(int crates, String text) {
        LendHouse x = lent(crates, text);
        x.ship(5000, 0);
        x.way(1, 1);
        yes("load in landed()", x.load(0, 1, crates));
        yes("sail in landed()", x.sail(0, 1));
        x.weeks(1);
        due("landed in landed()", crates, x.land(1, 3));
        return x;
    }

    private static void newObject() {
        part = "1 a new object";
        due("NONE", -1, LendHouse.NONE);
        LendHouse x = new LendHouse();
        for (int what = 0; what <= 20; what++) {
            due("count(" + what + ")", 0, x.count(what));
        }
        due("fault()", NONE, x.fault());
        due("check()", NONE, x.check());
        no("undo()", x.undo());
        no("again()", x.again());
        due("land 1 mood", 0, x.land(1, 1));
        x.ship(1, 0);
        yes("sail", x.sail(0, 5));
        due("the way at first", 2, x.led(0, 2));
    }

    private static void feedAndEnd() {
        part = "2 feed, 3 end";
        LendHouse x = new LendHouse();
        for (int i = 1; i <= 20; i++) {
            due("feed", 20 * i, x.feed(i, i, i, i, i));
        }
        due("feed behind 400", NONE, x.feed(0, 0, 0, 0, 0));
        no("end(401)", x.end(401));
        yes("end(400)", x.end(400));
        no("end(-1)", x.end(-1));
        yes("end(381)", x.end(381));
        due("feed to 401", NONE, x.feed(0, 0, 0, 0, 0));
        yes("end(380)", x.end(380));
        due("feed to 400", 400, x.feed(0, 0, 0, 0, 0));
        yes("end(0)", x.end(0));
        due("feed", 20, x.feed(asBytes("mark", 0), asBytes(" 123", 0), asBytes("45;l", 0), asBytes("end", 0), 0));
        yes("end(15)", x.end(15));
        no("end(16)", x.end(16));
        due("act of two lines", 2, x.act(0));
        no("end(1) behind act", x.end(1));
        x.ask(1, 0, 1, 0);
        due("the highest byte came first", 12345, x.weigh(0, 0));
        x.feed(0x6c656e64, 0, 0, 0, 0);
        x.end(4);
        x.feed(0x3b6d6172, 0x6b203700, 0, 0, 0);
        x.end(11);
        due("behind what is there", 2, x.act(0));
        due("mark 7", 7, x.weigh(0, 0));
    }

    private static void sorts() {
        part = "4 sort";
        LendHouse x = new LendHouse();
        thrown("sort -1", INDEX, () -> { x.sort(-1, 1, 0, 0, 1); return 0; });
        thrown("sort 8", INDEX, () -> { x.sort(8, 0, 0, 0, 1); return 0; });
        thrown("tons 0", ARGUMENT, () -> { x.sort(0, 0, 0, 0, 1); return 0; });
        thrown("tons 21", ARGUMENT, () -> { x.sort(0, 21, 0, 0, 1); return 0; });
        thrown("steel -1", ARGUMENT, () -> { x.sort(0, 1, -1, 0, 1); return 0; });
        thrown("steel 51", ARGUMENT, () -> { x.sort(0, 1, 51, 0, 1); return 0; });
        thrown("hands -1", ARGUMENT, () -> { x.sort(0, 1, 0, -1, 1); return 0; });
        thrown("hands 51", ARGUMENT, () -> { x.sort(0, 1, 0, 51, 1); return 0; });
        thrown("weeks 0", ARGUMENT, () -> { x.sort(0, 1, 0, 0, 0); return 0; });
        thrown("weeks 10", ARGUMENT, () -> { x.sort(0, 1, 0, 0, 10); return 0; });
        x.sort(7, 20, 50, 50, 9);
        x.sort(7, 1, 0, 0, 1);
        x.order(0, 10);
        x.sort(0, 3, 2, 1, 3);
        x.works(19, 100);
        x.weeks(1);
        due("an order that lies needs the new steel", 0, x.lot(0, 5));
        x.works(1, 100);
        x.weeks(2);
        due("done 2 of 3", 2, x.lot(0, 4));
        due("at work", 10, x.lot(0, 10));
        x.sort(0, 3, 2, 1, 2);
        due("still at work", 10, x.lot(0, 10));
        x.weeks(1);
        due("in the port", 10, x.lot(0, 11));
        LendHouse y = lent(2, "lend");
        y.ship(10, 0);
        y.sort(0, 6, 0, 0, 1);
        no("too heavy together", y.load(0, 1, 2));
        yes("one", y.load(0, 1, 1));
        due("tons", 6, y.led(0, 3));
        y.sort(0, 20, 0, 0, 1);
        due("tons as they are now", 20, y.led(0, 3));
        yes("it sails still", y.sail(0, 1));
    }

    private static void prices() {
        part = "5 price, 6 cost";
        LendHouse x = new LendHouse();
        thrown("price sort 8", INDEX, () -> x.price(8, -1, -1));
        thrown("price sort -1", INDEX, () -> x.price(-1, 0, 0));
        thrown("price week -1", ARGUMENT, () -> x.price(0, -1, 0));
        thrown("price week 501", ARGUMENT, () -> x.price(0, 501, 0));
        thrown("price -1", ARGUMENT, () -> x.price(0, 0, -1));
        thrown("price 1001", ARGUMENT, () -> x.price(0, 0, 1001));
        thrown("cost sort 8", INDEX, () -> x.cost(8, 0));
        thrown("cost sort -1", INDEX, () -> x.cost(-1, 0));
        due("cost", 0, x.cost(0, 0));
        due("price", 1, x.price(0, 10, 1000));
        due("price", 2, x.price(0, 500, 3));
        due("price", 3, x.price(1, 0, 7));
        due("price ahead", 4, x.price(0, 4, 2));
        due("price again", 5, x.price(0, 10, 9));
        due("cost 3", 0, x.cost(0, 3));
        due("cost 4", 2, x.cost(0, 4));
        due("cost 9", 2, x.cost(0, 9));
        due("cost 10", 9, x.cost(0, 10));
        due("cost 499", 9, x.cost(0, 499));
        due("cost 500", 3, x.cost(0, 500));
        due("cost far ahead", 3, x.cost(0, Integer.MAX_VALUE));
        due("cost far behind", 0, x.cost(1, Integer.MIN_VALUE));
        x.weeks(5);
        thrown("price of a week that is over", ARGUMENT, () -> x.price(0, 4, 1));
        due("price this week", 6, x.price(0, 5, 4));
        for (int i = 7; i <= 100; i++) {
            due("price", i, x.price(i % 8, 5, 5));
        }
        due("price 101", NONE, x.price(0, 5, 77));
        due("not told", 5, x.cost(0, 5));
        thrown("price 101 wrong", ARGUMENT, () -> x.price(0, 5, 1001));
    }

    private static void worksAndOrders() {
        part = "7 works, 8 order";
        LendHouse x = new LendHouse();
        thrown("steel -1", ARGUMENT, () -> x.works(-1, 0));
        thrown("steel too much", ARGUMENT, () -> x.works(1000001, 0));
        thrown("hands -1", ARGUMENT, () -> x.works(0, -1));
        thrown("hands 1000001", ARGUMENT, () -> x.works(0, 1000001));
        due("works", 999999, x.works(999999, 1000000));
        thrown("steel too much in all", ARGUMENT, () -> x.works(2, 0));
        thrown("steel far too much", ARGUMENT, () -> x.works(Integer.MAX_VALUE, 0));
        due("steel stays", 999999, x.count(2));
        due("works", 1000000, x.works(1, 0));
        thrown("order sort 8", INDEX, () -> x.order(8, 0));
        thrown("order 0", ARGUMENT, () -> x.order(0, 0));
        thrown("order 1001", ARGUMENT, () -> x.order(0, 1001));
        for (int i = 0; i < 100; i++) {
            due("order", i, x.order(0, 1000));
        }
        thrown("order 101", SUPPORT, () -> x.order(0, 1));
        thrown("order 101 wrong", ARGUMENT, () -> x.order(0, 1001));
        due("over", 0, x.over());
        thrown("order 101 behind the end", SUPPORT, () -> x.order(0, 1));

        LendHouse y = new LendHouse();
        y.over();
        thrown("order behind the end", STATE, () -> y.order(0, 1));

        LendHouse z = new LendHouse();
        z.sort(0, 1, 4, 3, 2);
        z.sort(1, 1, 1, 5, 1);
        z.works(25, 10);
        z.order(0, 5);
        z.order(0, 2);
        z.order(1, 5);
        z.order(1, 2);
        z.weeks(1);
        due("begun 0", 1, z.lot(0, 5));
        due("begun 1 in vain", 0, z.lot(1, 5));
        due("begun 2", 1, z.lot(2, 5));
        due("begun 3 in vain", 0, z.lot(3, 5));
        due("steel left", 0, z.count(2));
        due("no hands for 0", 0, z.lot(0, 4));
        due("no hands for 2", 0, z.lot(2, 4));
        z.works(10, 40);
        z.weeks(1);
        due("begun 1", 1, z.lot(1, 5));
        due("begun 3", 1, z.lot(3, 5));
        due("steel left", 0, z.count(2));
        due("work 0", 1, z.lot(0, 4));
        due("work 1", 1, z.lot(1, 4));
        due("not enough hands for 2", 0, z.lot(2, 4));
        due("work 3 and the port", 2, z.lot(3, 11));
        z.weeks(1);
        due("the port 0", 5, z.lot(0, 11));
        due("the port 1", 2, z.lot(1, 11));
        due("work 2 waits", 5, z.lot(2, 10));
        due("done 0", 2, z.lot(0, 4));
        z.weeks(1);
        due("the port 2", 5, z.lot(2, 11));
        due("done 0 goes not on", 2, z.lot(0, 4));
    }

    private static void lots() {
        part = "9 lot";
        LendHouse x = landed(10, "mark 1; lend; owe 50");
        thrown("lot -1", INDEX, () -> x.lot(-1, 0));
        thrown("lot 2", INDEX, () -> x.lot(2, 99));
        thrown("what -1", ELEMENT, () -> x.lot(0, -1));
        thrown("what 19", ELEMENT, () -> x.lot(0, 19));
        due("given", 2, x.give(1, 4, 2, true));
        due("back", 3, x.back(5, 7, 3));
        long[][] rows = {
            {0, 0, 0, 0, 1, 1, NONE, 0, NONE, 0, 0, 0, 0, 0, 0, 0, 0, 0, 0},
            {0, 10, 1, 0, 0, 0, 1, 0, NONE, 0, 0, 0, 0, 6, 0, 4, 0, 0, 0},
            {0, 4, 2, 0, 0, 0, NONE, 0, 1, 1, 0, 0, 0, 4, 0, 0, 0, 0, 0},
            {7, 3, 5, 1, 0, 0, NONE, 0, NONE, 0, 0, 0, 0, 3, 0, 0, 0, 0, 0},
        };
        for (int lot = 0; lot < 4; lot++) {
            for (int what = 0; what < 19; what++) {
                due("lot(" + lot + ", " + what + ")", rows[lot][what], x.lot(lot, what));
            }
        }
        x.need(1, 0, 2);
        x.weeks(1);
        due("used", 2, x.lot(1, 14));
        due("over", 11, x.over());
        due("left", 4, x.lot(1, 18));
        due("left of what was given", 4, x.lot(2, 18));
        due("left of what was to go back", 3, x.lot(3, 18));
    }

    private static void acts() {
        part = "10 act, 11 fault";
        LendHouse x = new LendHouse();
        due("no text", 0, act(x, 0, ""));
        due("blanks", 0, act(x, 0, "    "));
        due("fault", NONE, x.fault());
        due("acts", 2, x.count(3));
        thrown("wrong text", ARGUMENT, () -> act(x, 0, "lent"));
        due("fault", 0, x.fault());
        write(x, "lend;lend");
        thrown("wrong week", ARGUMENT, () -> x.act(501));
        due("the text was not read", 0, x.fault());
        no("the tape is used up", x.end(1));
        thrown("wrong week", ARGUMENT, () -> act(x, -1, "lend"));
        due("lines", 3, act(x, 3, " mark 1 ;lend;give "));
        due("fault", NONE, x.fault());
        due("lines of week 0", 0, x.count(4));
        x.weeks(3);
        due("lines of week 3", 3, x.count(4));
        thrown("a week that is over", ARGUMENT, () -> act(x, 2, "lend"));
        due("lines", 2, act(x, 500, "mark 1;mark 2"));
        due("lines", 1, act(x, 3, "mark 9"));
        due("the last one of week 3", 1, x.count(4));
        for (int i = 6; i <= 10; i++) {
            due("act " + i, 4, act(x, 5, "lend;lend;lend;lend"));
        }
        due("acts", 10, x.count(3));
        thrown("act 11, wrong", ARGUMENT, () -> act(x, 5, "lend;"));
        due("fault", 5, x.fault());
        thrown("act 11", SUPPORT, () -> act(x, 5, "lend"));
        due("fault of a text that was read", NONE, x.fault());
        no("the tape is used up", x.end(1));
        due("week 4", 1, x.count(4));
        x.weeks(2);
        due("week 5", 4, x.count(4));
        x.weeks(60);
        due("week 65", 4, x.count(4));
    }

    private static void faults() {
        part = "11 fault";
        faultOf("lend", NONE);
        faultOf("  lend  ;  give  ", NONE);
        faultOf("mark 0;mark 99999;owe 0;owe 100;owe 00100", NONE);
        faultOf("mark5if1<2and2>1or3<3", NONE);
        faultOf("give if land+sort+week+crates+tons+price+had+hunger+rocks+to<99999", NONE);
        faultOf("lend if((((((1<2))))))", NONE);
        faultOf("lend if(((((((1<2)))))))", 13);
        faultOf("lend if not(not(not(1<2)))", NONE);
        faultOf("lend if not(not(not(not 1<2)))", 20);
        faultOf("lend if not(not(not((1<2))))", 20);
        faultOf("lend if (1<2) and not 1<2 and not not not not not not 1<2", NONE);
        faultOf(" ;lend", 1);
        faultOf("lend;", 5);
        faultOf("lend;   ", 8);
        faultOf("lend;;", 5);
        faultOf("lend lend", 5);
        faultOf("lend 5", 5);
        faultOf("mark lend", 5);
        faultOf("mark", 4);
        faultOf("mark  ", 6);
        faultOf("mark 123456", 5);
        faultOf("mark 000001", 5);
        faultOf("mark 5 5", 7);
        faultOf("owe 101", 4);
        faultOf("owe 99999", 4);
        faultOf("owe 100000", 4);
        faultOf("lendif 1<2", 0);
        faultOf("Lend", 0);
        faultOf("lenD", 0);
        faultOf("lend5", 4);
        faultOf("lend\t", 4);
        faultOf("lend" + (char) 233, 4);
        faultOf("lend" + (char) 0, 4);
        faultOf("lend if", 7);
        faultOf("lend if ;", 8);
        faultOf("lend if 1", 9);
        faultOf("lend if 1<", 10);
        faultOf("lend if 1+<2", 10);
        faultOf("lend if 1<2<3", 11);
        faultOf("lend if 1<2)", 11);
        faultOf("lend if (1<2", 12);
        faultOf("lend if (1<2;give", 12);
        faultOf("lend if (1)<2", 10);
        faultOf("lend if 1<2 and", 15);
        faultOf("lend if 1<2 or or", 15);
        faultOf("lend if 1<2 not 1<2", 12);
        faultOf("lend if 1=2", 9);
        faultOf("lend if 1-2<3", 9);
        faultOf("lend if 123456<1", 8);
        faultOf("lend if 1<2+landx", 12);
        faultOf("lend if lend<1", 8);
        faultOf("lend if 1<2 mark 5", 12);
        faultOf("if 1<2", 0);
        String twelve = "give;give;give;give;give;give;give;give;give;give;give;give";
        faultOf(twelve, NONE);
        faultOf(twelve + ";", 60);
        faultOf(twelve + "; mark 1", 61);
        faultOf(twelve + ";;", 60);
    }

    private static LendHouse asked() {
        LendHouse x = new LendHouse();
        x.ask(2, 3, 10, 0);
        return x;
    }

    /** The MARK of a REQUEST of LAND 2 for 10 crates of SORT 3 in WEEK 0. */
    private static void marked(String text, int want) {
        LendHouse x = asked();
        x.sort(3, 4, 0, 0, 1);
        x.price(3, 0, 6);
        act(x, 0, text);
        due("[" + text + "]", want, x.weigh(0, 0));
    }

    private static void conditions() {
        part = "conditions of an act";
        marked("mark 1;mark 2;mark 4 if 2<1", 3);
        marked("mark 1 if land<3;mark 2 if land<2;mark 4 if land>1;mark 8 if land>2", 5);
        marked("mark 1 if sort>2;mark 2 if sort>3", 1);
        marked("mark 1 if week<1;mark 2 if week>0", 1);
        marked("mark 1 if crates>9;mark 2 if crates>10", 1);
        marked("mark 1 if tons>39;mark 2 if tons>40", 1);
        marked("mark 1 if price>5;mark 2 if price>6", 1);
        marked("mark 1 if had<1;mark 2 if hunger<1;mark 4 if rocks<1;mark 8 if to<1;mark 16 if to>0", 15);
        marked("mark 1 if 1<2 or 1<2 and 2<1;mark 2 if (1<2 or 1<2) and 2<1", 1);
        marked("mark 1 if not 1<2 or 1<2;mark 2 if not(1<2 or 1<2)", 1);
        marked("mark 1 if not not 1<2;mark 2 if not 1<2 and 2<1", 1);
        marked("mark 1 if 2<1 and 1<2 or 1<2;mark 2 if 2<1 and (1<2 or 1<2)", 1);
        marked("mark 1 if 1+2+3<7;mark 2 if 1+2+3<6;mark 4 if 7>1+2+3;mark 8 if 6>1+2+3", 5);
        marked("mark 1 if land+land+sort+1<crates;mark 2 if land+sort+crates+tons+price>60", 3);
        marked("", 0);
        marked("lend;owe 5;give", 0);
    }

    private static void factsOfLands() {
        part = "facts of a land";
        LendHouse x = landed(20, "lend;give if to>3 and had>19 and hunger>8 and week>3 and land<2 and crates<2"
                + " and tons>2 and price>6 and sort<1");
        x.sort(0, 3, 0, 0, 1);
        x.need(1, 7, 9);
        x.weeks(2);
        x.price(0, 4, 7);
        due("to 3", NONE, x.give(1, 1, 3, false));
        due("two crates", NONE, x.give(1, 2, 4, false));
        due("all of it holds", 2, x.give(1, 1, 4, false));
        act(x, 4, "mark 1 if had>19;mark 2 if had>20;mark 4 if hunger>17;mark 8 if hunger>18;mark 16 if week>3"
                + ";mark 32 if week>4;mark 64 if to<1");
        x.ask(1, 0, 5, 0);
        x.ask(4, 0, 5, 0);
        x.ask(1, 1, 5, 0);
        due("land 1", 1 + 4 + 16 + 64, x.weigh(1, 0));
        due("land 4, to which some was given on", 16 + 64, x.weigh(2, 0));
        due("land 1, another sort", 4 + 16 + 64, x.weigh(3, 0));
        x.back(1, 1, 30);
        due("back goods did not land there by a ship", 4 + 16 + 64, x.weigh(3, 0));
    }

    private static void requests() {
        part = "12 ask, 13 weigh";
        LendHouse x = new LendHouse();
        thrown("land -1", INDEX, () -> x.ask(-1, 0, 1, 0));
        thrown("land 6", INDEX, () -> x.ask(6, 0, 1, 0));
        thrown("sort 8", INDEX, () -> x.ask(0, 8, 0, 0));
        thrown("land 0", ARGUMENT, () -> x.ask(0, 0, 1, 0));
        thrown("crates 0", ARGUMENT, () -> x.ask(1, 0, 0, 0));
        thrown("crates 1001", ARGUMENT, () -> x.ask(1, 0, 1001, 0));
        thrown("drawn -1", ARGUMENT, () -> x.ask(1, 0, 1, -1));
        thrown("drawn 10000", ARGUMENT, () -> x.ask(1, 0, 1, 10000));
        thrown("weigh 0", INDEX, () -> x.weigh(0, 9));
        thrown("weigh -1", INDEX, () -> x.weigh(-1, 0));
        for (int i = 0; i < 60; i++) {
            due("ask", i, x.ask(1 + i % 5, i % 8, 1000, 9999));
        }
        thrown("ask 61", SUPPORT, () -> x.ask(1, 0, 1, 0));
        thrown("ask 61 wrong", ARGUMENT, () -> x.ask(1, 0, 0, 0));
        due("open", 60, x.count(5));
        thrown("weigh 60", INDEX, () -> x.weigh(60, 0));
        thrown("weigh what 6", ELEMENT, () -> x.weigh(0, 6));
        thrown("weigh what -1", ELEMENT, () -> x.weigh(0, -1));

        LendHouse y = asked();
        due("mark without an act", 0, y.weigh(0, 0));
        due("why of mark", NONE, y.weigh(0, 1));
        due("why of lend", NONE, y.weigh(0, 2));
        due("owe", 0, y.weigh(0, 5));
        act(y, 0, "mark 3 if 2<1;owe 7 if crates>9;mark 4;lend if crates<9;lend if crates>9;owe 3;owe 9 if crates>10;mark 1");
        due("mark", 5, y.weigh(0, 0));
        due("why of mark", 2, y.weigh(0, 1));
        due("why of lend", 4, y.weigh(0, 2));
        due("has", 0, y.weigh(0, 3));
        due("lacks", 10, y.weigh(0, 4));
        due("owe", 7, y.weigh(0, 5));
        y.order(3, 4);
        y.weeks(1);
        due("allot 4", 4, y.allot(3));
        due("has", 4, y.weigh(0, 3));
        due("lacks", 6, y.weigh(0, 4));
        due("crates: all it asked for", 4, y.weigh(0, 2));
        due("crates: all it asked for", 7, y.weigh(0, 5));
        due("still open", 1, y.count(5));
        y.over();
        due("ask behind the end", 1, y.ask(1, 0, 1, 0));
    }

    private static void allotments() {
        part = "14 allot";
        LendHouse x = new LendHouse();
        thrown("sort 8", INDEX, () -> x.allot(8));
        thrown("sort -1", INDEX, () -> x.allot(-1));
        act(x, 0, "mark 10 if land<4;mark 5 if land<3;lend if crates<30;owe 20 if crates>4;owe 10");
        x.price(0, 0, 100);
        x.order(0, 10);
        x.order(1, 50);
        x.order(0, 12);
        x.ask(4, 0, 5, 0);
        x.ask(3, 0, 6, 0);
        x.ask(2, 0, 30, 7);
        x.ask(1, 0, 7, 8);
        x.ask(1, 0, 4, 7);
        x.ask(1, 1, 1, 0);
        no("nothing in the port", x.allot(0) != 0);
        no("so nothing to undo", x.undo());
        x.weeks(1);
        due("allot", 22, x.allot(0));
        due("lots", 4, x.count(1));
        due("first of the mark and least drawn: has what is left, as it is below 30", 2, x.lot(3, 2));
        due("all of it", 22, x.lot(3, 1));
        due("stock 0 is empty", 0, x.lot(0, 1) + x.lot(0, 11));
        due("stock 2 is empty", 0, x.lot(2, 1) + x.lot(2, 11));
    }

    private static void allotmentsInOrder() {
        part = "14 allot, in order";
        LendHouse x = new LendHouse();
        act(x, 0, "mark 10 if land<4;mark 5 if land<3;lend if crates<20;owe 20 if crates>4;owe 10");
        x.price(0, 0, 100);
        x.order(0, 10);
        x.order(1, 50);
        x.order(0, 22);
        x.ask(4, 0, 5, 0);
        x.ask(3, 0, 6, 0);
        x.ask(2, 0, 30, 7);
        x.ask(1, 0, 7, 8);
        x.ask(1, 0, 4, 7);
        x.ask(1, 1, 1, 0);
        x.weeks(1);
        due("allot", 22, x.allot(0));
        long[][] lots = {{1, 4}, {1, 7}, {3, 6}, {4, 5}};
        for (int i = 0; i < 4; i++) {
            due("land of lot " + (3 + i), lots[i][0], x.lot(3 + i, 2));
            due("crates of lot " + (3 + i), lots[i][1], x.lot(3 + i, 1));
            due("port of lot " + (3 + i), lots[i][1], x.lot(3 + i, 11));
            due("week of lot " + (3 + i), 1, x.lot(3 + i, 6));
        }
        due("passed by", 30, x.weigh(2, 4));
        due("stock 0", 0, x.lot(0, 1));
        due("stock 2", 10, x.lot(2, 1));
        due("stock 2 in the port", 10, x.lot(2, 11));
        due("owed by 1: 4 at 10, 7 at 20", 40 + 140, x.land(1, 2));
        due("open", 2, x.count(5));
        due("again: 10 are left, and below 20", 10, x.allot(0));
        due("lot", 2, x.lot(7, 2));
        due("lacks", 20, x.weigh(2, 4));
        x.over();
        thrown("behind the end", STATE, () -> x.allot(0));
        thrown("behind the end, no sort", INDEX, () -> x.allot(8));

        LendHouse all = new LendHouse();
        act(all, 0, "lend");
        all.order(0, 61);
        for (int i = 0; i < 60; i++) {
            all.ask(1, 0, 1, 0);
        }
        all.weeks(1);
        due("sixty requests at once", 60, all.allot(0));
        due("the last one", 0, all.weigh(59, 4));

        LendHouse y = new LendHouse();
        act(y, 0, "lend");
        for (int i = 0; i < 98; i++) {
            y.order(0, 1);
        }
        y.weeks(1);
        y.ask(1, 0, 1, 5);
        y.ask(2, 0, 1, 5);
        y.ask(3, 0, 1, 5);
        due("it ends at 100 lots", 2, y.allot(0));
        due("lots", 100, y.count(1));
        due("by their number", 1, y.lot(98, 2));
        due("by their number", 2, y.lot(99, 2));
        due("no room", 0, y.allot(0));
        yes("the first one is to be undone", y.undo());
        due("lots", 98, y.count(1));
    }

    private static void labels() {
        part = "15 label";
        LendHouse x = lent(10, "lend");
        thrown("lot 2", INDEX, () -> x.label(2, -1) ? 1 : 0);
        thrown("label -1", ARGUMENT, () -> x.label(1, -1) ? 1 : 0);
        thrown("label 10", ARGUMENT, () -> x.label(1, 10) ? 1 : 0);
        no("of stock", x.label(0, 3));
        no("the same", x.label(1, 0));
        yes("another", x.label(1, 9));
        no("the same", x.label(1, 9));
        due("label", 9, x.lot(1, 7));
        x.ship(100, 0);
        x.ship(100, 0);
        x.ship(100, 0);
        x.way(1, 1);
        x.load(0, 1, 1);
        x.load(1, 1, 1);
        x.load(1, 1, 1);
        x.load(2, 1, 6);
        x.sail(0, 1);
        x.sail(1, 1);
        yes("one is in the port still", x.label(1, 7));
        x.load(2, 1, 1);
        no("none in the port", x.label(1, 3));
        x.weeks(1);
        due("mood: twice 7, and 1 nearer", -13, x.land(1, 1));
        due("mood of another", 0, x.land(2, 1));
        x.sail(2, 1);
        x.weeks(1);
        due("mood", -19, x.land(1, 1));
        x.weeks(20);
        due("mood not above 0", 0, x.land(1, 1));

        LendHouse y = lent(12, "lend");
        y.label(1, 9);
        y.way(1, 1);
        for (int i = 0; i < 12; i++) {
            y.ship(1, 0);
            y.load(i, 1, 1);
            y.sail(i, 1);
        }
        y.weeks(1);
        due("- 100 at least", -99, y.land(1, 1));
    }

    private static void ships() {
        part = "16 ship, 17 way";
        LendHouse x = new LendHouse();
        thrown("hold 0", ARGUMENT, () -> x.ship(0, 0));
        thrown("hold 5001", ARGUMENT, () -> x.ship(5001, 0));
        thrown("luck -1", ARGUMENT, () -> x.ship(1, -1));
        thrown("luck 100", ARGUMENT, () -> x.ship(1, 100));
        for (int i = 0; i < 12; i++) {
            due("ship", i, x.ship(5000, 99));
        }
        thrown("ship 13", SUPPORT, () -> x.ship(1, 0));
        thrown("ship 13 wrong", ARGUMENT, () -> x.ship(0, 0));
        due("ships", 12, x.count(6));
        thrown("way land 6", INDEX, () -> { x.way(6, 0); return 0; });
        thrown("way land -1", INDEX, () -> { x.way(-1, 1); return 0; });
        thrown("way land 0", ARGUMENT, () -> { x.way(0, 1); return 0; });
        thrown("way 0", ARGUMENT, () -> { x.way(1, 0); return 0; });
        thrown("way 7", ARGUMENT, () -> { x.way(1, 7); return 0; });
        x.way(1, 6);
        x.sail(0, 1);
        x.way(1, 1);
        x.sail(1, 1);
        due("the way as it sailed", 6, x.led(0, 2));
        due("the way now", 1, x.led(1, 2));
        x.weeks(1);
        due("in port", 2, x.led(1, 0));
        due("5 left", 5, x.led(0, 2));
        x.way(1, 3);
        yes("home", x.sail(1, 0));
        due("the way home", 3, x.led(1, 2));
    }

    private static void risks() {
        part = "18 risk";
        LendHouse x = new LendHouse();
        thrown("land 6", INDEX, () -> x.risk(6, 0, 0));
        thrown("land 0", ARGUMENT, () -> x.risk(0, 0, 0));
        thrown("week -1", ARGUMENT, () -> x.risk(1, -1, 0));
        thrown("week 501", ARGUMENT, () -> x.risk(1, 501, 0));
        thrown("risk -1", ARGUMENT, () -> x.risk(1, 0, -1));
        thrown("risk 101", ARGUMENT, () -> x.risk(1, 0, 101));
        x.ship(1, 63);
        x.ship(1, 64);
        x.ship(1, 62);
        due("risk", 1, x.risk(1, 1, 1));
        for (int i = 0; i < 3; i++) {
            x.sail(i, 1);
        }
        x.weeks(1);
        due("63 + 37 is 0: lost", 4, x.led(0, 0));
        due("64 + 37 is 1: not", 1, x.led(1, 0));
        due("62 + 37 is 99: not", 1, x.led(2, 0));
        due("lost", 1, x.count(7));
        due("another land", 2, x.risk(2, 1, 100));
        due("it is told again", 3, x.risk(1, 2, 50));
        due("it is told again", 4, x.risk(1, 2, 39));
        x.weeks(1);
        due("64 + 74 is 38: lost", 4, x.led(1, 0));
        due("62 + 74 is 36: lost", 4, x.led(2, 0));
        thrown("a week that is over", ARGUMENT, () -> x.risk(1, 1, 0));
        for (int i = 5; i <= 100; i++) {
            due("risk", i, x.risk(1 + i % 5, 500, 1));
        }
        due("risk 101", NONE, x.risk(1, 500, 1));
        thrown("risk 101 wrong", ARGUMENT, () -> x.risk(1, 500, 101));
    }

    private static void loads() {
        part = "19 load, 20 sail";
        LendHouse x = new LendHouse();
        act(x, 0, "lend");
        x.sort(0, 2, 0, 0, 1);
        x.order(0, 200);
        for (int i = 0; i < 10; i++) {
            x.ask(1, 0, 10, i);
        }
        x.ask(2, 0, 10, 50);
        x.weeks(1);
        due("allot", 110, x.allot(0));
        x.ship(100, 0);
        x.ship(5000, 0);
        thrown("ship 2", INDEX, () -> x.load(2, 1, 1) ? 1 : 0);
        thrown("ship -1", INDEX, () -> x.load(-1, 1, 1) ? 1 : 0);
        thrown("lot 12", INDEX, () -> x.load(0, 12, 1) ? 1 : 0);
        thrown("sail ship 2", INDEX, () -> x.sail(2, 1) ? 1 : 0);
        thrown("sail land 6", INDEX, () -> x.sail(0, 6) ? 1 : 0);
        thrown("sail land -1", INDEX, () -> x.sail(0, -1) ? 1 : 0);
        no("of stock", x.load(0, 0, 1));
        no("none", x.load(0, 1, 0));
        no("below none", x.load(0, 1, -1));
        no("more than there are", x.load(0, 1, 11));
        no("far more than there are", x.load(0, 1, Integer.MAX_VALUE));
        yes("load", x.load(1, 1, 1));
        due("in the port", 9, x.lot(1, 11));
        due("in a ship", 1, x.lot(1, 12));
        due("tons", 2, x.led(1, 3));
        no("another land", x.load(1, 11, 1));
        for (int i = 2; i <= 8; i++) {
            yes("load", x.load(1, i, 1));
        }
        due("lots in it", 8, x.led(1, 5));
        no("a ninth lot", x.load(1, 9, 1));
        yes("more of one that is there", x.load(1, 8, 9));
        due("lots in it", 8, x.led(1, 5));
        for (int i = 9; i <= 10; i++) {
            yes("load", x.load(0, i, 10));
        }
        due("tons", 40, x.led(0, 3));
        yes("load", x.load(0, 1, 9));
        yes("load", x.load(0, 2, 9));
        yes("load", x.load(0, 3, 9));
        no("too many tons", x.load(0, 4, 4));
        yes("just so many", x.load(0, 4, 3));
        due("tons", 100, x.led(0, 3));
        no("to none", x.sail(0, 0));
        no("to another", x.sail(0, 2));
        yes("sail", x.sail(0, 1));
        no("at sea", x.sail(0, 1));
        no("at sea", x.sail(0, 0));
        no("load at sea", x.load(0, 4, 1));
        x.ship(10, 0);
        yes("without crates to any", x.sail(2, 5));
        x.weeks(2);
        due("in a land's port", 2, x.led(0, 0));
        due("all out", 0, x.led(0, 3) + x.led(0, 5));
        no("to another land from there", x.sail(0, 3));
        no("to the same", x.sail(0, 1));
        no("lent goods there", x.load(0, 9, 1));
        int mine = x.back(1, 0, 10);
        int other = x.back(2, 0, 10);
        no("back goods of another land", x.load(0, other, 1));
        no("back goods at home", x.load(1, mine, 1));
        yes("back goods", x.load(0, mine, 4));
        yes("back goods", x.load(0, mine, 5));
        due("landed", 1, x.lot(mine, 13));
        yes("home", x.sail(0, 0));
        x.weeks(2);
        due("come back", 9, x.lot(mine, 17));
        due("at home", 0, x.led(0, 0));
        x.over();
        thrown("load behind the end", STATE, () -> x.load(0, 0, 1) ? 1 : 0);
        thrown("sail behind the end", STATE, () -> x.sail(0, 1) ? 1 : 0);
        thrown("load behind the end, no lot", INDEX, () -> x.load(0, 99, 1) ? 1 : 0);
        thrown("sail behind the end, no land", INDEX, () -> x.sail(0, 6) ? 1 : 0);
    }

    private static void shipStates() {
        part = "21 led";
        LendHouse x = lent(10, "lend");
        x.ship(100, 0);
        x.ship(100, 63);
        thrown("ship 2", INDEX, () -> x.led(2, 9));
        thrown("what 6", ELEMENT, () -> x.led(0, 6));
        thrown("what -1", ELEMENT, () -> x.led(0, -1));
        x.load(0, 1, 5);
        x.load(1, 1, 5);
        due("land at home", 0, x.led(0, 1));
        due("not lost", NONE, x.led(0, 4));
        x.sail(0, 1);
        x.sail(1, 1);
        due("outward", 1, x.led(0, 0));
        due("land", 1, x.led(0, 1));
        due("weeks", 2, x.led(0, 2));
        x.risk(1, 3, 20);
        x.weeks(1);
        x.weeks(1);
        due("63 + 111 is 74: in port", 2, x.led(1, 0));
        due("0 + 111 is 11: lost", 4, x.led(0, 0));
        due("it keeps the land", 1, x.led(0, 1));
        due("no weeks", 0, x.led(0, 2));
        due("no tons", 0, x.led(0, 3));
        due("no lots", 0, x.led(0, 5));
        due("the week", 3, x.led(0, 4));
        due("lost crates", 5, x.lot(1, 16));
        due("lost on the way", 5, x.land(1, 4));
        due("landed", 5, x.land(1, 3));
        no("a lost one sails not", x.sail(0, 1));
        no("a lost one sails not", x.sail(0, 0));
        no("nor is it loaded", x.load(0, 1, 1));
        int back = x.back(1, 0, 2);
        x.load(1, back, 2);
        x.sail(1, 0);
        due("homeward", 3, x.led(1, 0));
        due("by the same route", 1, x.led(1, 1));
        x.risk(1, 4, 100);
        x.weeks(1);
        due("lost homeward", 4, x.led(1, 0));
        due("lost crates", 2, x.lot(back, 16));
        due("not lost on the way to it", 5, x.land(1, 4));
        due("lost ships", 2, x.count(7));
    }

    private static void needs() {
        part = "22 need";
        LendHouse x = landed(20, "lend");
        thrown("land 6", INDEX, () -> { x.need(6, 0, 0); return 0; });
        thrown("sort 8", INDEX, () -> { x.need(0, 8, 0); return 0; });
        thrown("land 0", ARGUMENT, () -> { x.need(0, 0, 0); return 0; });
        thrown("need -1", ARGUMENT, () -> { x.need(1, 0, -1); return 0; });
        thrown("need 1001", ARGUMENT, () -> { x.need(1, 0, 1001); return 0; });
        x.give(1, 5, 2, true);
        x.give(2, 2, 1, true);
        x.back(1, 0, 9);
        x.need(1, 0, 16);
        x.need(2, 0, 1);
        x.need(3, 7, 1000);
        x.weeks(1);
        due("used by lots", 15, x.lot(1, 14));
        due("used of what was given", 1, x.lot(3, 14));
        due("hunger 1", 0, x.land(1, 0));
        due("hunger 2", 0, x.land(2, 0));
        due("hunger 3", 1000, x.land(3, 0));
        x.weeks(1);
        due("back goods are not used", 9, x.lot(4, 13));
        due("hunger 1", 15, x.land(1, 0));
        x.need(1, 0, 0);
        x.weeks(3);
        due("hunger 1", 15, x.land(1, 0));
        due("used 2", 3, x.lot(2, 14));
        due("hunger 2", 1, x.land(2, 0) - 1);

        LendHouse y = lent(20, "lend");
        y.label(1, 2);
        y.ship(100, 0);
        y.way(1, 1);
        y.load(0, 1, 20);
        y.sail(0, 1);
        y.need(1, 0, 7);
        y.weeks(1);
        due("offended: 3 of 7 are used", 3, y.lot(1, 14));
        due("hunger", 4, y.land(1, 0));
        y.weeks(1);
        due("offended still", 6, y.lot(1, 14));
        y.weeks(1);
        due("no more", 13, y.lot(1, 14));
        due("hunger", 8, y.land(1, 0));
    }

    private static void weeks() {
        part = "23 weeks";
        LendHouse x = new LendHouse();
        thrown("weeks -1", ARGUMENT, () -> x.weeks(-1));
        thrown("weeks 61", ARGUMENT, () -> x.weeks(61));
        due("weeks 0", 0, x.weeks(0));
        no("nothing to undo", x.undo());
        due("weeks 60", 60, x.weeks(60));
        for (int i = 2; i <= 8; i++) {
            due("weeks 60", 60 * i, x.weeks(60));
        }
        x.order(0, 5);
        due("weeks 60", 500, x.weeks(60));
        due("weeks 60", 500, x.weeks(60));
        due("in the port", 5, x.lot(0, 11));
        yes("the last one that did something", x.undo());
        due("week", 480, x.count(0));

        LendHouse y = landed(10, "lend");
        y.sort(2, 1, 1, 0, 1);
        y.order(1, 3);
        y.order(2, 3);
        y.need(1, 0, 1);
        y.need(1, 1, 1);
        y.rock(2, 9, 0, 5);
        y.sail(0, 0);
        y.over();
        due("the week goes on", 12, y.weeks(10));
        due("nothing is made", 6, y.count(12));
        due("nothing sails", 3, y.led(0, 0));
        due("nothing is used", 0, y.count(16));
        due("no hunger", 0, y.land(1, 0));
        due("no yield", 0, y.count(10));
        due("a lease has its end", 0, y.land(2, 5));
    }

    private static void gifts() {
        part = "24 give";
        LendHouse x = landed(20, "mark 1;lend;owe 100;give if to<3 and crates<5 and land<2");
        x.price(0, 2, 3);
        thrown("lot 2", INDEX, () -> x.give(2, 1, 2, true));
        thrown("land 6", INDEX, () -> x.give(1, 1, 6, true));
        thrown("land -1", INDEX, () -> x.give(1, 1, -1, true));
        due("none", NONE, x.give(1, 0, 2, true));
        due("more than are landed", NONE, x.give(1, 21, 2, true));
        due("stock", NONE, x.give(0, 1, 2, true));
        due("its own", NONE, x.give(1, 1, 1, true));
        due("the maker", NONE, x.give(1, 1, 0, true));
        due("no line", NONE, x.give(1, 5, 2, false));
        due("no line", NONE, x.give(1, 4, 3, false));
        due("given", 2, x.give(1, 4, 2, false));
        due("not wrong", 0, x.lot(2, 9));
        due("by force", 3, x.give(1, 5, 2, true));
        due("wrong", 1, x.lot(3, 9));
        due("by force, but a line holds", 4, x.give(1, 1, 2, true));
        due("not wrong", 0, x.lot(4, 9));
        due("no line for the next one", NONE, x.give(2, 1, 1, false));
        due("given on", 5, x.give(2, 1, 1, true));
        due("source", 2, x.lot(5, 8));
        due("wrong ones", 2, x.count(8));
        int back = x.back(1, 0, 1);
        due("back", NONE, x.give(back, 1, 2, true));
        due("landed 1", 11, x.land(1, 3));
        due("landed 2", 9, x.land(2, 3));
        due("given on of lot 1", 10, x.lot(1, 15));
        due("all of places", 20 + 10 + 1 + 1, x.count(12) + x.count(13) + x.count(15) + x.count(17)
                + x.count(18) + x.count(19) + x.count(20) + x.count(14) + x.count(16));
        yes("undo", x.undo());
        due("lots", 5, x.count(1));
        for (int i = x.count(1); i < 100; i++) {
            x.order(1, 1);
        }
        due("100 lots", NONE, x.give(1, 1, 2, true));
        x.over();
        thrown("behind the end", STATE, () -> x.give(1, 1, 2, true));
        thrown("behind the end, no land", INDEX, () -> x.give(1, 1, 6, true));
    }

    private static void backs() {
        part = "25 back";
        LendHouse x = new LendHouse();
        thrown("land 6", INDEX, () -> x.back(6, 0, 0));
        thrown("sort 8", INDEX, () -> x.back(0, 8, 0));
        thrown("land 0", ARGUMENT, () -> x.back(0, 0, 1));
        thrown("crates 0", ARGUMENT, () -> x.back(1, 0, 0));
        thrown("crates 1001", ARGUMENT, () -> x.back(1, 0, 1001));
        due("back", 0, x.back(4, 5, 1000));
        due("back", 1, x.lot(0, 3));
        due("land", 4, x.lot(0, 2));
        due("landed", 1000, x.lot(0, 13));
        due("not among what is lent", 0, x.land(4, 3));
        for (int i = 1; i < 100; i++) {
            x.back(1, 0, 1);
        }
        thrown("back 101", SUPPORT, () -> x.back(1, 0, 1));
        thrown("back 101 wrong", ARGUMENT, () -> x.back(1, 0, 0));
        LendHouse y = new LendHouse();
        y.over();
        thrown("behind the end", STATE, () -> y.back(1, 0, 1));
        thrown("behind the end, wrong", ARGUMENT, () -> y.back(1, 0, 0));
    }

    private static void landsAndBalances() {
        part = "26 land, 27 balance";
        LendHouse x = new LendHouse();
        thrown("land 6", INDEX, () -> x.land(6, 99));
        thrown("land -1", INDEX, () -> x.land(-1, 0));
        thrown("land 0", ARGUMENT, () -> x.land(0, 99));
        thrown("what 8", ELEMENT, () -> x.land(1, 8));
        thrown("what -1", ELEMENT, () -> x.land(1, -1));
        thrown("balance land 6", INDEX, () -> x.balance(6, 9, 0));
        thrown("balance land 0", ARGUMENT, () -> x.balance(0, 9, 0));
        thrown("balance what 3", ELEMENT, () -> x.balance(1, 3, 0));
        thrown("balance what -1", ELEMENT, () -> x.balance(1, -1, 0));

        LendHouse y = new LendHouse();
        y.sort(0, 4, 0, 3, 1);
        y.works(0, 1000);
        y.price(0, 0, 7);
        y.price(0, 2, 11);
        act(y, 0, "lend;owe 33 if crates<6;owe 50 if crates>5;owe 1");
        y.order(0, 30);
        y.ask(1, 0, 5, 0);
        y.ask(1, 0, 9, 1);
        y.ask(2, 0, 3, 2);
        y.weeks(1);
        y.allot(0);
        due("owed: 5 * 7 * 33 by 100 is 11, 9 * 7 * 50 by 100 is 31", 42, y.land(1, 2));
        due("owed: 3 * 7 * 33 by 100", 6, y.land(2, 2));
        due("nothing landed", 0, y.balance(1, 2, 0));
        y.ship(1000, 0);
        y.ship(1000, 0);
        y.load(0, 1, 5);
        y.load(0, 2, 4);
        y.load(1, 2, 5);
        y.sail(0, 1);
        y.weeks(2);
        act(y, 3, "owe 100");
        due("by what held then, and the price of then", 42, y.land(1, 2));
        due("landed", 9, y.land(1, 3));
        due("balance by price 0", 63, y.balance(1, 0, 0));
        due("balance by price 2", 99, y.balance(1, 0, 2));
        due("balance by price -1", 0, y.balance(1, 0, -1));
        due("balance by hands", 27, y.balance(1, 1, 0));
        due("balance by tons", 36, y.balance(1, 2, 0));
        y.give(1, 3, 2, true);
        due("what is owed stays with the first", 42, y.land(1, 2));
        due("nothing is owed for it", 6, y.land(2, 2));
        due("given on is not lent", 0, y.balance(2, 2, 0));
        due("given on was lent", 36, y.balance(1, 2, 0));
        int back = y.back(1, 0, 4);
        due("not yet back", 36, y.balance(1, 2, 0));
        y.load(0, back, 4);
        y.sail(0, 0);
        y.weeks(2);
        due("back", 20, y.balance(1, 2, 0));
        due("owed still", 42, y.land(1, 2));
        y.risk(1, 6, 100);
        y.sail(1, 1);
        y.weeks(1);
        due("lost on the way", 5, y.land(1, 4));
        due("owed still", 42, y.land(1, 2));
        y.over();
        due("left: 2 * 7 * 0 left of lot 1 (3 given on), 5 lost of lot 2", 3 * 7 * 33 / 100 + 5 * 7 * 50 / 100,
                y.land(1, 2));
        due("landed", 0, y.land(1, 3));
        due("not landed of 2 is owed still", 6, y.land(2, 2));

        owedAsAllotted();
    }

    /** PRICE and owe LINES that are told in the WEEK of the allotment, ahead of it and behind it. */
    private static void owedAsAllotted() {
        LendHouse z = new LendHouse();
        act(z, 0, "lend;owe 50");
        z.order(0, 3);
        z.weeks(1);
        z.price(0, 1, 8);
        z.price(0, 1, 10);
        z.ask(1, 0, 1, 0);
        z.ask(1, 0, 1, 1);
        due("one as by the latest telling ahead", 2, z.allot(0));
        due("owed", 10, z.land(1, 2));
        z.price(0, 1, 30);
        due("what is told behind it does not count", 10, z.land(1, 2));
        act(z, 1, "lend;owe 100");
        due("nor does a later act of that week", 10, z.land(1, 2));
        z.ask(1, 0, 1, 2);
        due("one more in the same week", 1, z.allot(0));
        due("by the price and the line of now", 40, z.land(1, 2));
        z.price(0, 1, 0);
        z.weeks(1);
        z.price(0, 2, 20);
        due("not that of another week", 40, z.land(1, 2));
        z.keep();
        z.weeks(1);
        yes("again", z.again());
        due("the image has it", 40, z.land(1, 2));

        LendHouse none = lent(100, "lend;owe 100");
        none.price(0, 1, 10);
        due("no price was told as it was allotted", 0, none.land(1, 2));
    }

    private static void returns() {
        part = "28 returned, 29 mustBe";
        LendHouse x = landed(20, "lend");
        thrown("land 6", INDEX, () -> x.returned(6, 0, 0, 0));
        thrown("sort 8", INDEX, () -> x.returned(0, 8, 0, 0));
        thrown("land 0", ARGUMENT, () -> x.returned(0, 0, 0, 0));
        thrown("week -1", ARGUMENT, () -> x.returned(1, 0, -1, 0));
        thrown("week 3", ARGUMENT, () -> x.returned(1, 0, 3, 0));
        thrown("crates -1", ARGUMENT, () -> x.returned(1, 0, 0, -1));
        thrown("crates 100001", ARGUMENT, () -> x.returned(1, 0, 0, 100001));
        thrown("mustBe land 6", INDEX, () -> x.mustBe(6, 0, 9));
        thrown("mustBe sort 8", INDEX, () -> x.mustBe(0, 8, 0));
        thrown("mustBe land 0", ARGUMENT, () -> x.mustBe(0, 0, 0));
        thrown("mustBe week -1", ARGUMENT, () -> x.mustBe(1, 0, -1));
        thrown("mustBe week 3", ARGUMENT, () -> x.mustBe(1, 0, 3));
        due("must be 1", 0, x.mustBe(1, 0, 1));
        due("must be 2", 20, x.mustBe(1, 0, 2));
        x.need(1, 0, 3);
        x.weeks(1);
        due("must be 2", 20, x.mustBe(1, 0, 2));
        due("must be 3", 17, x.mustBe(1, 0, 3));
        x.give(1, 7, 2, true);
        due("must be now", 10, x.mustBe(1, 0, 3));
        due("must be of what was given", 7, x.mustBe(2, 0, 3));
        x.back(1, 0, 9);
        due("back goods count not", 10, x.mustBe(1, 0, 3));
        due("sure", 0, x.land(1, 6));
        due("may be", 10, x.land(1, 7));
        due("return", 1, x.returned(1, 0, 3, 8));
        due("sure", 2, x.land(1, 6));
        due("may be", 2, x.land(1, 7));
        due("an older one counts not", 2, x.returned(1, 0, 2, 0));
        due("sure", 2, x.land(1, 6));
        due("one of the same week counts", 3, x.returned(1, 0, 3, 4));
        due("sure", 6, x.land(1, 6));
        due("more than must be", 4, x.returned(1, 0, 3, 100000));
        due("sure", 0, x.land(1, 6));
        x.weeks(1);
        due("must be at the end of 3", 10, x.mustBe(1, 0, 3));
        due("must be 4", 7, x.mustBe(1, 0, 4));
        due("of another land", 5, x.returned(2, 0, 3, 5));
        due("sure 2", 2, x.land(2, 6));
        due("of a sort that is not there", 6, x.returned(1, 5, 4, 0));
        due("sure", 0, x.land(1, 6));
        for (int i = 7; i <= 100; i++) {
            due("return", i, x.returned(5, 7, 0, 0));
        }
        due("return 101", NONE, x.returned(1, 0, 4, 0));
        thrown("return 101 wrong", ARGUMENT, () -> x.returned(1, 0, 5, 0));
        x.over();
        due("left behind the end", 0, x.mustBe(1, 0, 4));
        due("but at the end of 3", 10, x.mustBe(1, 0, 3));
        x.weeks(1);
        due("left behind the end", 0, x.mustBe(1, 0, 4));
    }

    private static void sightings() {
        part = "30 seen, 31 whence";
        LendHouse x = landed(20, "lend");
        thrown("land 6", INDEX, () -> x.seen(6, 0, 0));
        thrown("sort 8", INDEX, () -> x.seen(0, 8, 0));
        thrown("land 0", ARGUMENT, () -> x.seen(0, 0, 1));
        thrown("crates 0", ARGUMENT, () -> x.seen(1, 0, 0));
        thrown("crates 100001", ARGUMENT, () -> x.seen(1, 0, 100001));
        thrown("whence land 6", INDEX, () -> x.whence(6, 8, true));
        thrown("whence sort 8", INDEX, () -> x.whence(0, 8, true));
        thrown("whence land 0", ARGUMENT, () -> x.whence(0, 0, false));
        due("seen", 1, x.seen(1, 0, 25));
        due("unexplained", 5, x.whence(1, 0, false));
        due("seen less", 2, x.seen(1, 0, 24));
        due("unexplained", 5, x.whence(1, 0, false));
        due("seen", 3, x.seen(2, 0, 10));
        due("unexplained", 10, x.whence(2, 0, false));
        x.give(1, 4, 2, true);
        due("unexplained", 6, x.whence(2, 0, false));
        due("what was given on was landed", 5, x.whence(1, 0, false));
        x.give(2, 1, 1, true);
        due("given on there", 4, x.whence(1, 0, false));
        due("seen fewer than landed", 4, x.seen(3, 0, 1));
        due("another sort", 0, x.whence(1, 1, false));
        due("from land 1", 2, x.whence(3, 0, true));
        due("from land 1, itself", 2, x.whence(1, 0, true));
        due("from none", 0, x.whence(1, 1, true));
        x.need(1, 0, 1000);
        x.weeks(1);
        due("used was landed too", 4, x.whence(1, 0, false));
        x.back(1, 3, 5);
        due("back goods came by no ship", 0, x.whence(2, 3, true));
        for (int i = 5; i <= 60; i++) {
            due("seen", i, x.seen(5, 7, 100000));
        }
        due("seen 61", NONE, x.seen(1, 0, 1));
        thrown("seen 61 wrong", ARGUMENT, () -> x.seen(1, 0, 0));
    }

    private static void bases() {
        part = "32 rock, 33 net";
        LendHouse x = new LendHouse();
        thrown("land 6", INDEX, () -> x.rock(6, 0, 0, 0));
        thrown("land 0", ARGUMENT, () -> x.rock(0, 1, 0, 0));
        thrown("weeks 0", ARGUMENT, () -> x.rock(1, 0, 0, 0));
        thrown("weeks 501", ARGUMENT, () -> x.rock(1, 501, 0, 0));
        thrown("cost -1", ARGUMENT, () -> x.rock(1, 1, -1, 0));
        thrown("cost 10001", ARGUMENT, () -> x.rock(1, 1, 10001, 0));
        thrown("yield -1", ARGUMENT, () -> x.rock(1, 1, 0, -1));
        thrown("yield 1001", ARGUMENT, () -> x.rock(1, 1, 0, 1001));
        thrown("net 0", INDEX, () -> x.net(0));
        due("base", 0, x.rock(1, 1, 10000, 1000));
        due("base", 1, x.rock(1, 3, 5, 10));
        due("leased", 2, x.land(1, 5));
        due("net", -10000, x.net(0));
        x.ask(1, 0, 1, 0);
        act(x, 0, "mark 1 if rocks>0;mark 2 if rocks>1;mark 4 if rocks>2");
        due("rocks", 3, x.weigh(0, 0));
        x.weeks(1);
        due("leased", 1, x.land(1, 5));
        due("net", -9000, x.net(0));
        due("net", 5, x.net(1));
        due("brought", 1010, x.count(10));
        due("base", 2, x.rock(2, 500, 0, 1));
        x.weeks(1);
        due("net", -9000, x.net(0));
        due("leased", 1, x.land(1, 5));
        due("rocks", 1, x.weigh(0, 0));
        x.weeks(1);
        due("leased", 0, x.land(1, 5));
        due("net: three weeks", 25, x.net(1));
        due("brought", 1032, x.count(10));
        x.weeks(10);
        due("net: no more", 25, x.net(1));
        due("net", 12, x.net(2));
        for (int i = 3; i < 10; i++) {
            due("base", i, x.rock(5, 1, 0, 0));
        }
        thrown("base 11", SUPPORT, () -> x.rock(5, 1, 0, 0));
        thrown("base 11 wrong", ARGUMENT, () -> x.rock(5, 0, 0, 0));
        due("bases", 10, x.count(9));
        thrown("net 10", INDEX, () -> x.net(10));
        thrown("net -1", INDEX, () -> x.net(-1));
    }

    private static void theEnd() {
        part = "34 over";
        LendHouse x = landed(20, "lend");
        x.give(1, 5, 2, true);
        x.back(3, 1, 7);
        x.order(1, 2);
        due("over", 27, x.over());
        due("over again", NONE, x.over());
        due("the end", 1, x.count(11));
        due("left", 27, x.count(20));
        due("landed", 0, x.count(15));
        due("at work", 2, x.count(12));
        yes("undo of what was ahead of it", x.undo());
        due("no end then", 0, x.count(11));
        due("lots", 2, x.count(1));
    }

    private static void hulls() {
        part = "35 tons, 36 hulls";
        LendHouse x = new LendHouse();
        thrown("land 6", INDEX, () -> { x.tons(6, -1); return 0; });
        thrown("land 0", ARGUMENT, () -> { x.tons(0, 0); return 0; });
        thrown("tons -1", ARGUMENT, () -> { x.tons(1, -1); return 0; });
        thrown("tons 100001", ARGUMENT, () -> { x.tons(1, 100001); return 0; });
        due("no ships, no tons", 0, x.hulls(NONE));
        x.tons(5, 1);
        due("no ships", NONE, x.hulls(NONE));
        x.risk(1, 1, 10);
        x.risk(5, 1, 20);
        x.ship(10, 0);
        x.ship(30, 0);
        x.ship(20, 0);
        due("the least hold", 200, x.hulls(NONE));
        due("ship 0", 5, x.hulls(0));
        due("ship 1: none", 0, x.hulls(1));
        due("no such ship", NONE, x.hulls(3));
        due("no such ship", NONE, x.hulls(-2));
        x.tons(5, 30);
        due("30 or 10 + 20", 600, x.hulls(NONE));
        due("ship 0 to none", 0, x.hulls(0));
        due("ship 1", 5, x.hulls(1));
        due("ship 2", 0, x.hulls(2));
        x.tons(1, 20);
        due("20 to 1", 800, x.hulls(NONE));
        due("ship 0", 0, x.hulls(0));
        due("ship 2", 1, x.hulls(2));
        x.tons(1, 41);
        due("not enough", NONE, x.hulls(NONE));
        due("not enough", NONE, x.hulls(0));
        x.tons(1, 0);
        x.tons(5, 0);
        x.sail(0, 1);
        x.tons(2, 25);
        due("a land without risk", 0, x.hulls(NONE));
        due("not at home", NONE, x.hulls(0));
        due("ship 1", 2, x.hulls(1));
        due("ship 2 to the least land", 0, x.hulls(2));
        for (int i = 3; i < 9; i++) {
            x.ship(5, 0);
        }
        due("the sixth at home", 2, x.hulls(6));
        due("the seventh", NONE, x.hulls(7));
        x.tons(2, 71);
        due("the first six have 70", NONE, x.hulls(NONE));
        x.tons(2, 70);
        due("all", 2, x.hulls(6));
        x.risk(2, 2, 50);
        due("the risk of the next week", 0, x.hulls(NONE));
        x.weeks(1);
        due("the risk of the next week", 70 * 50, x.hulls(NONE));
        due("lots", 0, x.count(14));
    }

    private static void bestOrders() {
        part = "37 bestOrders";
        LendHouse x = new LendHouse();
        due("none", 0, x.bestOrders());
        x.sort(0, 1, 2, 1, 1);
        x.sort(1, 1, 1, 1, 1);
        x.sort(2, 1, 0, 0, 1);
        x.price(0, 0, 6);
        x.price(1, 0, 6);
        x.price(2, 1, 1000);
        x.order(0, 10);
        x.order(1, 10);
        x.order(0, 5);
        x.order(1, 10);
        x.order(2, 1);
        due("no steel", 0, x.bestOrders());
        x.works(20, 10);
        due("the least steel, then the least bits", 2, x.bestOrders());
        x.works(0, 15);
        due("the greatest sum", 6, x.bestOrders());
        x.works(0, 20);
        due("both with the least steel", 10, x.bestOrders());
        x.works(10, 25);
        due("25 hands: with one of five", 14, x.bestOrders());
        x.price(2, 0, 1);
        due("worth one more", 30, x.bestOrders());
        for (int i = 5; i < 10; i++) {
            x.order(2, 1);
        }
        due("the first eight", 30 | 32 | 64 | 128, x.bestOrders());
        x.works(0, 0);
        x.weeks(1);
        due("begun are 0, 1, the rest and not 2 and 3", 2, x.count(1) - 8);
        due("steel 30 - 20 - 10", 0, x.count(2));
        due("2 is first now", 0, x.bestOrders());
        x.works(1000, 1000);
        due("2 and 3", 3, x.bestOrders());

        LendHouse y = new LendHouse();
        y.order(0, 1);
        due("worth nothing: the least bits", 0, y.bestOrders());
        y.price(0, 0, 1);
        due("worth one", 1, y.bestOrders());
    }

    private static void pages() {
        part = "38 page, 39 signed";
        LendHouse x = new LendHouse();
        thrown("maker -10001", ARGUMENT, () -> x.page(-10001, 0));
        thrown("maker 10001", ARGUMENT, () -> x.page(10001, 0));
        thrown("other -10001", ARGUMENT, () -> x.page(0, -10001));
        thrown("other 10001", ARGUMENT, () -> x.page(0, 10001));
        due("no pages", 0, x.signed(0, 0));
        due("no pages", NONE, x.signed(1, 0));
        due("no pages", NONE, x.signed(0, 1));
        due("page", 0, x.page(10, -10));
        due("page", 1, x.page(10, -10));
        due("page", 2, x.page(-5, 9));
        due("the least bits", 5, x.signed(0, -1));
        due("all", 7, x.signed(0, -11));
        due("far below", 3, x.signed(Integer.MIN_VALUE, Integer.MIN_VALUE));
        due("far above", NONE, x.signed(Integer.MAX_VALUE, 0));
        due("page", 3, x.page(0, 1));
        due("the most of the other", 13, x.signed(5, -8));
        due("page", 4, x.page(0, 0));
        due("the least bits", 13, x.signed(5, -8));
        for (int i = 5; i < 9; i++) {
            due("page", i, x.page(10000, -10000));
        }
        due("page 10", NONE, x.page(1, 1));
        thrown("page 10 wrong", ARGUMENT, () -> x.page(10001, 1));
        due("all that the maker likes", 1 + 2 + 8 + 32 + 64 + 128 + 256, x.signed(0, -50000));
    }

    private static void choices() {
        part = "40 choice, 41 row, 42 lasts";
        LendHouse x = new LendHouse();
        thrown("cost -1", ARGUMENT, () -> x.choice(-1, 0, 0, 0));
        thrown("cost 10001", ARGUMENT, () -> x.choice(10001, 0, 0, 0));
        thrown("year -1", ARGUMENT, () -> x.choice(0, -1, 0, 0));
        thrown("year 5", ARGUMENT, () -> x.choice(0, 5, 0, 0));
        thrown("goods -1", ARGUMENT, () -> x.choice(0, 0, -1, 0));
        thrown("goods 10001", ARGUMENT, () -> x.choice(0, 0, 10001, 0));
        thrown("food -1", ARGUMENT, () -> x.choice(0, 0, 0, -1));
        thrown("food 10001", ARGUMENT, () -> x.choice(0, 0, 0, 10001));
        thrown("row 3", ARGUMENT, () -> { x.row(3, 0, 0, 0, 0); return 0; });
        thrown("row -1", ARGUMENT, () -> { x.row(-1, 0, 0, 0, 0); return 0; });
        thrown("year 5", ARGUMENT, () -> { x.row(0, 5, 0, 0, 0); return 0; });
        thrown("year -1", ARGUMENT, () -> { x.row(0, -1, 0, 0, 0); return 0; });
        thrown("steel -1", ARGUMENT, () -> { x.row(0, 0, -1, 0, 0); return 0; });
        thrown("steel 100001", ARGUMENT, () -> { x.row(0, 0, 100001, 0, 0); return 0; });
        thrown("goods 100001", ARGUMENT, () -> { x.row(0, 0, 0, 100001, 0); return 0; });
        thrown("food -1", ARGUMENT, () -> { x.row(0, 0, 0, 0, -1); return 0; });
        due("nothing needs nothing", 0, x.lasts());
        x.row(2, 3, 0, 1, 0);
        due("a need without choices", NONE, x.lasts());
        due("choice", 1, x.choice(0, 4, 9, 9));
        due("too late", NONE, x.lasts());
        due("choice", 2, x.choice(0, 3, 1, 0));
        due("in its year", 2, x.lasts());
        x.row(0, 4, 0, 0, 9);
        due("both", 3, x.lasts());
        for (int row = 0; row < 3; row++) {
            for (int year = 0; year < 5; year++) {
                x.row(row, year, 10, row == 2 && year == 3 ? 1 : 0, row == 0 && year == 4 ? 9 : 0);
            }
        }
        due("choice", 3, x.choice(0, 0, 1, 9));
        due("of the same cost the fewest", 4, x.lasts());
        due("choice", 4, x.choice(0, 2, 1, 9));
        due("the least bits", 4, x.lasts());
        x.row(0, 0, 10, 0, 10);
        due("food 10 in the first year: none", NONE, x.lasts());
        due("choice", 5, x.choice(10, 0, 0, 1));
        due("with the fifth", 20, x.lasts());
        x.row(1, 2, 9, 0, 0);
        due("no steel in a year of a row", NONE, x.lasts());
        x.row(1, 2, 10, 0, 0);
        due("choice", 6, x.choice(2, 0, 0, 1));
        due("cheaper", 36, x.lasts());
        due("choice", 7, x.choice(9, 4, 10000, 10000));
        due("choice", 8, x.choice(1, 0, 0, 1));
        due("cheaper still", 132, x.lasts());
        due("choice 9", NONE, x.choice(0, 0, 0, 0));
        thrown("choice 9 wrong", ARGUMENT, () -> x.choice(0, 5, 0, 0));
        due("it stays", 132, x.lasts());

        LendHouse y = new LendHouse();
        y.choice(10, 0, 1, 0);
        y.choice(12, 1, 1, 0);
        for (int row = 0; row < 3; row++) {
            for (int year = 0; year < 5; year++) {
                y.row(row, year, 12, year / 4, 0);
            }
        }
        due("48 in four years is less than 50 in five", 2, y.lasts());
    }

    private static void cash() {
        part = "43 cash";
        LendHouse x = new LendHouse();
        thrown("a", ARGUMENT, () -> x.cash(-1, 0, 0, 0, 0));
        thrown("b", ARGUMENT, () -> x.cash(0, -1, 0, 0, 0));
        thrown("c", ARGUMENT, () -> x.cash(0, 0, -1, 0, 0));
        thrown("d", ARGUMENT, () -> x.cash(0, 0, 0, -1, 0));
        thrown("e", ARGUMENT, () -> x.cash(0, 0, 0, 0, -1));
        act(x, 0, "lend");
        x.price(0, 0, 10);
        x.price(0, 2, 1000);
        x.order(0, 100);
        x.ask(1, 0, 5, 0);
        x.ask(5, 0, 6, 1);
        x.ask(1, 0, 2, 2);
        x.weeks(1);
        x.allot(0);
        due("enough", NONE, x.cash(70, 0, 0, 0, 60));
        due("not for the first", 1, x.cash(49, 9, 9, 9, 59));
        due("not for 5", 2, x.cash(69, 999, 999, 999, 59));
        due("not for both", 3, x.cash(69, 0, 0, 0, 60));
        x.weeks(1);
        x.price(0, 2, 0);
        due("the price of that week", 3, x.cash(69, 0, 0, 0, 60));
        x.ask(2, 0, 1, 0);
        x.price(0, 2, 1000);
        x.allot(0);
        due("not for the dear one", 4, x.cash(70, 999, 0, 0, 60));
        due("enough", NONE, x.cash(70, 1000, 0, 0, Integer.MAX_VALUE));

        LendHouse y = landed(4, "lend");
        y.give(1, 4, 2, true);
        y.price(0, 2, 5);
        due("what is given on is not paid", NONE, y.cash(0, 0, 0, 0, 0));

        LendHouse z = new LendHouse();
        act(z, 0, "lend");
        z.order(0, 4);
        z.price(0, 1, 10);
        z.weeks(1);
        z.ask(1, 0, 2, 0);
        z.allot(0);
        z.price(0, 1, 0);
        z.ask(1, 0, 1, 0);
        z.allot(0);
        z.price(0, 1, 50);
        z.ask(1, 0, 1, 0);
        z.allot(0);
        z.price(0, 1, 1000);
        due("as allotted: 20", 1, z.cash(19, 0, 0, 0, 0));
        due("as allotted: 20, 0, 50", 3, z.cash(69, 0, 0, 0, 0));
        due("enough as allotted", NONE, z.cash(70, 0, 0, 0, 0));
    }

    private static void tornRows() {
        part = "44 tear, 45 check";
        LendHouse x = landed(20, "lend");
        thrown("no row", ELEMENT, () -> x.tear(0, 1));
        x.returned(1, 0, 2, 12);
        thrown("row 1", ELEMENT, () -> x.tear(1, 1));
        thrown("row -1", ELEMENT, () -> x.tear(-1, 1));
        due("as told", NONE, x.check());
        due("tear by nothing", 12, x.tear(0, 0));
        due("as told", NONE, x.check());
        due("sure", 8, x.land(1, 6));
        due("tear", 13, x.tear(0, 1));
        due("torn", 0, x.check());
        due("what stands there counts", 7, x.land(1, 6));
        due("tear", 13 ^ -1, x.tear(0, -1));
        due("sure, of a number below 0", 20 + 14, x.land(1, 6));
        due("tear back", 13, x.tear(0, -1));
        due("tear back", 12, x.tear(0, 1));
        due("as told", NONE, x.check());
        for (int i = 2; i <= 7; i++) {
            due("return", i, x.returned(2, 0, 0, i));
        }
        due("the oldest of six is the second", 2 ^ 8, x.tear(0, 8));
        due("the latest", 7 ^ 8, x.tear(5, 8));
        thrown("row 6", ELEMENT, () -> x.tear(6, 1));
        due("the first torn", 0, x.check());
        due("mended", 2, x.tear(0, 8));
        due("the next torn", 5, x.check());
        x.returned(2, 0, 0, 8);
        due("it is one nearer to the oldest", 4, x.check());
        due("mended", 7, x.tear(4, 8));
        due("as told", NONE, x.check());
    }

    private static void undos() {
        part = "46 undo";
        LendHouse x = lent(10, "lend");
        x.ship(100, 0);
        x.way(1, 1);
        yes("load", x.load(0, 1, 4));
        no("load in vain", x.load(0, 1, 40));
        x.order(1, 5);
        x.price(0, 1, 9);
        x.page(1, 1);
        x.choice(1, 1, 1, 1);
        x.seen(1, 1, 1);
        x.returned(1, 0, 0, 5);
        x.label(1, 5);
        x.rock(1, 1, 1, 1);
        x.works(5, 5);
        act(x, 1, "lend;lend");
        write(x, "lend;");
        yes("undo takes load back", x.undo());
        due("the tape stays", 1, x.end(5) ? 1 : 0);
        due("in the port", 10, x.lot(1, 11));
        due("no tons", 0, x.led(0, 3));
        due("lots", 2, x.count(1));
        due("no price", 0, x.cost(0, 1));
        due("no page", 0, x.page(0, 0));
        due("no choice", 1, x.choice(1, 1, 1, 1));
        due("nothing seen", 1, x.seen(1, 1, 1));
        due("no return", 1, x.returned(1, 0, 0, 5));
        due("no label", 0, x.lot(1, 7));
        due("no base", 0, x.count(9));
        due("no steel", 0, x.count(2));
        due("one act", 1, x.count(3));
        no("once", x.undo());
        thrown("the tape is read", ARGUMENT, () -> x.act(1));
        yes("load", x.load(0, 1, 10));
        yes("sail", x.sail(0, 1));
        due("fault stays", 5, x.fault());
        yes("undo takes sail back", x.undo());
        due("fault stays", 5, x.fault());
        due("at home", 0, x.led(0, 0));
        due("loaded", 10, x.led(0, 3));
        yes("sail", x.sail(0, 1));
        x.weeks(0);
        x.weeks(1);
        due("give in vain", NONE, x.give(1, 1, 2, false));
        yes("undo takes weeks back", x.undo());
        due("at sea", 1, x.led(0, 0));
        x.weeks(1);
        due("give", 2, x.give(1, 1, 2, true));
        yes("undo takes give back", x.undo());
        due("lots", 2, x.count(1));
        due("landed", 10, x.land(1, 3));
        due("unexplained", 0, x.whence(2, 0, false));
        x.order(0, 5);
        x.weeks(1);
        x.ask(2, 0, 3, 0);
        due("allot", 3, x.allot(0));
        due("nothing to allot", 0, x.allot(0));
        yes("undo takes allot back", x.undo());
        due("lacks", 3, x.weigh(1, 4));
        due("must be as it was", 10, x.mustBe(1, 0, 2));
        no("once", x.undo());
    }

    private static void images() {
        part = "47 keep, 48 again";
        LendHouse x = landed(10, "lend");
        x.need(1, 0, 1);
        x.weeks(3);
        x.keep();
        yes("keep takes nothing from undo", x.undo());
        due("week", 2, x.count(0));
        x.need(1, 0, 5);
        x.weeks(2);
        due("must be", 5, x.mustBe(1, 0, 3));
        write(x, "lend");
        yes("again", x.again());
        due("week", 5, x.count(0));
        due("must be as it was", 9, x.mustBe(1, 0, 3));
        due("must be as it was", 8, x.mustBe(1, 0, 4));
        due("must be as it was", 7, x.mustBe(1, 0, 5));
        due("need as it was", 7, x.land(1, 3));
        yes("the tape stays", x.end(4));
        no("nothing to undo", x.undo());
        x.over();
        yes("again", x.again());
        due("no end", 0, x.count(11));
        x.order(3, 3);
        x.keep();
        x.order(4, 4);
        yes("again, to the later one", x.again());
        due("lots", 3, x.count(1));
        x.weeks(60);
        x.weeks(60);
        x.keep();
        yes("again", x.again());
        due("week", 125, x.count(0));
        due("must be", 9, x.mustBe(1, 0, 3));
        due("must be", 0, x.mustBe(1, 0, 12));
        due("must be", 1, x.mustBe(1, 0, 11));
    }

    private static void imagesBesideUndo() {
        part = "46 undo, 48 again";
        LendHouse x = landed(90, "lend");
        x.need(1, 0, 1);
        x.weeks(10);
        x.weeks(50);
        act(x, 62, "lend;lend");
        x.keep();
        due("must be", 80, x.mustBe(1, 0, 12));
        yes("undo", x.undo());
        due("the act is told no more", 1, x.count(3));
        due("another act", 3, act(x, 12, "lend;lend;lend"));
        x.need(1, 0, 40);
        x.weeks(3);
        due("must be", 40, x.mustBe(1, 0, 13));
        yes("again", x.again());
        due("the act of the image", 2, x.count(4));
        due("must be", 79, x.mustBe(1, 0, 13));
        due("must be", 31, x.mustBe(1, 0, 61));
        due("must be now", 30, x.mustBe(1, 0, 62));
        x.need(1, 0, 0);
        for (int i = 0; i < 8; i++) {
            x.weeks(60);
        }
        due("the last week", 500, x.count(0));
        due("must be", 31, x.mustBe(1, 0, 61));
        due("must be", 30, x.mustBe(1, 0, 499));
        due("must be now", 30, x.mustBe(1, 0, 500));
        x.over();
        due("must be now", 0, x.mustBe(1, 0, 500));
        due("must be", 30, x.mustBe(1, 0, 499));
        x.keep();
        yes("again", x.again());
        due("must be", 30, x.mustBe(1, 0, 499));
    }

    private static void counts() {
        part = "49 count";
        LendHouse x = landed(10, "lend;give");
        x.order(1, 4);
        x.order(2, 6);
        x.sort(2, 1, 1, 0, 1);
        x.works(3, 0);
        x.weeks(1);
        x.ask(3, 1, 2, 0);
        x.allot(1);
        x.ask(3, 1, 2, 0);
        x.ship(2, 0);
        x.load(1, 4, 1);
        x.give(1, 3, 2, false);
        x.need(1, 0, 2);
        x.weeks(1);
        x.rock(2, 5, 0, 9);
        x.weeks(1);
        long[] want = {5, 6, 3, 1, 2, 1, 2, 0, 0, 1, 9, 0, 6, 3, 1, 6, 4, 3, 0, 0, 0};
        for (int what = 0; what < want.length; what++) {
            due("count(" + what + ")", want[what], x.count(what));
        }
        due("count(-1)", NONE, x.count(-1));
        due("count(21)", NONE, x.count(21));
        due("count(far)", NONE, x.count(Integer.MAX_VALUE));
        due("count(far)", NONE, x.count(Integer.MIN_VALUE));
    }

    public static void main(String[] args) {
        newObject();
        feedAndEnd();
        sorts();
        prices();
        worksAndOrders();
        lots();
        acts();
        faults();
        conditions();
        factsOfLands();
        requests();
        allotments();
        allotmentsInOrder();
        labels();
        ships();
        risks();
        loads();
        shipStates();
        needs();
        weeks();
        gifts();
        backs();
        landsAndBalances();
        returns();
        sightings();
        bases();
        theEnd();
        hulls();
        bestOrders();
        pages();
        choices();
        cash();
        tornRows();
        undos();
        images();
        imagesBesideUndo();
        counts();
        System.out.println(wrong == 0 ? "all answers are as due" : wrong + " answers are not as due");
        if (wrong != 0) {
            System.exit(1);
        }
    }
}
