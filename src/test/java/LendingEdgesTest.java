/** The edges of promises 12 to 15, 24 to 27 and 43: REQUESTS, LOTS that are allotted, given on, owed for and paid. */
public final class LendingEdgesTest extends Checks {
    private static void requests() {
        sentence("REQUESTS: at most 60, numbered from 0 on");
        LendHouse x = new LendHouse();
        for (int request = 0; request < 60; request++) {
            due("ask", request, x.ask(1 + request % 5, request % 8, 1 + request, 0));
            due("open", request + 1, x.count(5));
        }
        due("the last one lacks", 60, x.weigh(59, 4));
        due("the first one lacks", 1, x.weigh(0, 4));
        sentence("REQUESTS: of a LAND 1 to 5, a SORT 0 to 7, crates 1 to 1000, a drawn number 0 to 9999");
        LendHouse y = new LendHouse();
        act(y, 0, "mark 1 if land<2;mark 2 if land>4;mark 4 if sort<1;mark 8 if sort>6;mark 16 if crates<2"
                + ";mark 32 if crates>999");
        due("the least of all", 0, y.ask(1, 0, 1, 0));
        due("the greatest of all", 1, y.ask(5, 7, 1000, 9999));
        due("the least lacks", 1, y.weigh(0, 4));
        due("the greatest lacks", 1000, y.weigh(1, 4));
        due("the least", 1 + 4 + 16, y.weigh(0, 0));
        due("the greatest", 2 + 8 + 32, y.weigh(1, 0));
    }

    private static void weighing() {
        sentence("13: without an ACT and with one that has no such LINE: 0, NONE");
        LendHouse x = new LendHouse();
        x.ask(1, 0, 10, 0);
        int[] without = {0, NONE, NONE, 0, 10, 0};
        for (int what = 0; what <= 5; what++) {
            due("weigh(0, " + what + ")", without[what], x.weigh(0, what));
        }
        act(x, 0, "give;mark 5 if 2<1;lend if 2<1;owe 5 if 2<1");
        for (int what = 0; what <= 5; what++) {
            due("weigh(0, " + what + ") with none that holds", without[what], x.weigh(0, what));
        }
        sentence("WHY: the first LINE of a word that holds");
        act(x, 0, "mark 0;lend");
        due("mark 0 holds", 0, x.weigh(0, 1));
        due("the mark of it", 0, x.weigh(0, 0));
        due("lend", 1, x.weigh(0, 2));
        act(x, 0, "lend if 2<1;mark 1 if 2<1;lend;lend;mark 1;mark 1");
        due("the first lend that holds", 2, x.weigh(0, 2));
        due("the first mark that holds", 4, x.weigh(0, 1));
        act(x, 0, times(10, "give;") + "lend;mark 1");
        due("the last LINE but one", 10, x.weigh(0, 2));
        due("the last LINE", 11, x.weigh(0, 1));
        sentence("MARK: the sum of all mark LINES that hold");
        act(x, 0, "mark 99999" + times(11, ";mark 99999"));
        due("twelve great ones", 1199988, x.weigh(0, 0));
        sentence("13: the greatest NUMBER of the owe LINES that would hold (0 without)");
        act(x, 0, "owe 7;owe 100 if 2<1;owe 9;owe 8");
        due("owe", 9, x.weigh(0, 5));
        act(x, 0, "owe 0");
        due("owe 0", 0, x.weigh(0, 5));
        act(x, 0, "owe 100;owe 99");
        due("owe 100", 100, x.weigh(0, 5));
        sentence("13: crates: all it asked for");
        act(x, 0, "lend if crates>9;mark 1 if crates>9;owe 5 if crates>9;lend if crates<10;mark 2 if crates<10");
        x.order(0, 4);
        x.weeks(1);
        due("allot 4 of 10", 4, x.allot(0));
        int[] part = {1, 1, 0, 4, 6, 5};
        for (int what = 0; what <= 5; what++) {
            due("weigh(0, " + what + ") with 4 of 10", part[what], x.weigh(0, what));
        }
        x.order(0, 6);
        x.weeks(1);
        due("allot the rest", 6, x.allot(0));
        int[] all = {1, 1, 0, 10, 0, 5};
        for (int what = 0; what <= 5; what++) {
            due("weigh(0, " + what + ") with all", all[what], x.weigh(0, what));
        }
    }

    private static void facts() {
        sentence("FACTS: what a REQUEST of LAND 2 for 10 crates of SORT 3 is weighed by");
        String[] facts = {"land", "sort", "week", "crates", "tons", "price", "had", "hunger", "rocks", "to"};
        int[] numbers = {2, 3, 1, 10, 40, 6, 0, 0, 0, 0};
        for (int i = 0; i < facts.length; i++) {
            LendHouse x = asked();
            act(x, 1, "mark 1 if " + facts[i] + "<" + numbers[i] + ";mark 2 if " + facts[i] + "<" + (numbers[i] + 1));
            due(facts[i] + " is not below " + numbers[i] + " but below one more", 2, x.weigh(0, 0));
        }
        sentence("FACTS: tons: crates times TONS, the greatest");
        LendHouse y = new LendHouse();
        y.sort(3, 20, 0, 0, 1);
        y.ask(2, 3, 1000, 0);
        act(y, 0, "mark 1 if tons>19999;mark 2 if tons>20000");
        due("20000", 1, y.weigh(0, 0));
    }

    private static LendHouse asked() {
        LendHouse x = new LendHouse();
        x.sort(3, 4, 0, 0, 1);
        x.price(3, 0, 9);
        x.price(3, 1, 6);
        x.ask(2, 3, 10, 0);
        x.weeks(1);
        return x;
    }

    private static void rocksAndHunger() {
        sentence("FACTS: rocks: in as many WEEKS as its lease has, that in which it was leased the first");
        LendHouse x = new LendHouse();
        act(x, 0, "mark 1 if rocks>0;mark 2 if rocks>1");
        x.ask(1, 0, 1, 0);
        x.ask(2, 0, 1, 0);
        x.rock(1, 1, 0, 0);
        x.rock(1, 2, 0, 0);
        x.rock(2, 3, 0, 0);
        int[] first = {3, 1, 0, 0};
        int[] second = {1, 1, 1, 0};
        for (int week = 0; week < 4; week++) {
            due("rocks of 1 in week " + week, first[week], x.weigh(0, 0));
            due("rocks of 2 in week " + week, second[week], x.weigh(1, 0));
            x.weeks(1);
        }
        sentence("FACTS: hunger: its HUNGER in all");
        LendHouse y = new LendHouse();
        act(y, 0, "mark 1 if hunger>6;mark 2 if hunger>7");
        y.ask(1, 0, 1, 0);
        y.ask(2, 0, 1, 0);
        y.need(1, 3, 3);
        y.need(1, 7, 4);
        y.weeks(1);
        due("seven", 1, y.weigh(0, 0));
        due("none of another land", 0, y.weigh(1, 0));
        sentence("FACTS: had: crates of that SORT that ever landed in that LAND");
        LendHouse z = landed(20, "lend;mark 1 if had>19;mark 2 if had>20");
        z.need(1, 0, 20);
        z.weeks(1);
        z.ask(1, 0, 1, 0);
        z.ask(1, 1, 1, 0);
        z.ask(2, 0, 1, 0);
        due("used ones, too", 1, z.weigh(1, 0));
        due("another sort", 0, z.weigh(2, 0));
        due("another land", 0, z.weigh(3, 0));
        sentence("FACTS: price: of the SORT this WEEK");
        LendHouse w = new LendHouse();
        act(w, 0, "mark 1 if price>999;mark 2 if price>0");
        w.ask(1, 0, 1, 0);
        due("none at first", 0, w.weigh(0, 0));
        w.price(0, 1, 1000);
        w.price(1, 0, 1000);
        due("told for the next week, and of another sort", 0, w.weigh(0, 0));
        w.weeks(1);
        due("this week", 3, w.weigh(0, 0));
    }

    private static LendHouse stocked(int crates, String text) {
        LendHouse x = new LendHouse();
        act(x, 0, text);
        x.order(0, crates);
        x.weeks(1);
        return x;
    }

    private static void allotByMark() {
        sentence("ALLOT: by MARK (the greatest first)");
        LendHouse x = stocked(2, "lend;mark 5;mark 1 if land>1");
        x.ask(1, 0, 1, 0);
        x.ask(2, 0, 1, 9999);
        x.ask(1, 0, 1, 0);
        due("allot", 2, x.allot(0));
        due("the greater mark, though drawn last", 2, x.lot(1, 2));
        due("then the first of the rest", 0, x.weigh(0, 4));
        due("not the last", 1, x.weigh(2, 4));
        sentence("ALLOT: of several alike by the drawn number (least first)");
        int[][] drawn = {{9999, 9998}, {1, 0}, {5001, 5000}};
        for (int[] two : drawn) {
            LendHouse y = stocked(1, "lend");
            y.ask(1, 0, 1, two[0]);
            y.ask(2, 0, 1, two[1]);
            y.allot(0);
            due("the less drawn of " + two[0] + " and " + two[1], 2, y.lot(1, 2));
        }
        sentence("ALLOT: then by their number");
        LendHouse z = stocked(1, "lend");
        z.ask(3, 0, 1, 7);
        z.ask(2, 0, 1, 7);
        z.allot(0);
        due("the first", 3, z.lot(1, 2));
        sentence("ALLOT: the REQUESTS for it that are open");
        LendHouse w = stocked(9, "lend");
        w.ask(1, 1, 4, 0);
        w.ask(1, 0, 4, 0);
        due("another sort is not meant", 4, w.allot(0));
        due("it has all it asked for: open no more", 0, w.allot(0));
        due("open", 1, w.count(5));
        due("left in the port", 5, w.lot(0, 11));
        due("an empty stock", 0, w.allot(1));
        LendHouse v = new LendHouse();
        act(v, 0, "lend");
        for (int sort = 0; sort <= 7; sort++) {
            v.order(sort, 9);
            v.ask(1, 7 - sort, 1 + sort, 0);
        }
        v.weeks(1);
        for (int sort = 7; sort >= 0; sort--) {
            due("allot of SORT " + sort, 8 - sort, v.allot(sort));
            due("its REQUEST has all", 0, v.weigh(7 - sort, 4));
            due("open", sort, v.count(5));
            due("left of it", 9 - (8 - sort), v.lot(sort, 11));
            due("the new LOT's SORT", sort, v.lot(v.count(1) - 1, 0));
        }
        sentence("ALLOT: by MARK, by how many crates are asked for in all");
        LendHouse u = stocked(6, "lend;mark 5 if crates>9;mark 3 if crates<6");
        u.ask(1, 0, 10, 7);
        u.ask(2, 0, 8, 0);
        due("to the one that asked for 10", 6, u.allot(0));
        due("it has", 6, u.weigh(0, 3));
        u.ask(3, 0, 5, 0);
        u.order(0, 3);
        u.weeks(1);
        due("to the same one, that lacks 4 of 10", 3, u.allot(0));
        due("it has", 9, u.weigh(0, 3));
        u.order(0, 7);
        u.weeks(1);
        due("then the one that asked for 5, then that for 8", 7, u.allot(0));
        due("has all", 10, u.weigh(0, 3));
        due("has all", 5, u.weigh(2, 3));
        due("has what is left", 1, u.weigh(1, 3));
    }

    private static void allotAsMuch() {
        sentence("ALLOT: each has as much as is left and it lacks");
        for (int asked = 4; asked <= 6; asked++) {
            LendHouse x = stocked(5, "lend");
            x.ask(1, 0, asked, 0);
            x.ask(2, 0, 3, 1);
            due("allot", 5, x.allot(0));
            due("the first has", Math.min(asked, 5), x.weigh(0, 3));
            due("the second has", 5 - Math.min(asked, 5), x.weigh(1, 3));
            due("lots", asked == 4 ? 3 : 2, x.count(1));
            due("open", asked == 5 ? 1 : asked == 4 ? 1 : 2, x.count(5));
            due("crates of the stock", 0, x.lot(0, 1));
        }
        LendHouse y = stocked(1000, "lend");
        y.ask(1, 0, 1000, 0);
        due("as many as may be", 1000, y.allot(0));
        due("one lot", 1000, y.lot(1, 1));
        due("of stock none", 0, y.lot(0, 1));
        sentence("ALLOT: LOTS of STOCK are emptied by numbers; a LOT of STOCK keeps what is left of its crates");
        for (int asked = 4; asked <= 6; asked++) {
            LendHouse x = stocked(5, "lend");
            x.order(1, 5);
            x.order(0, 5);
            x.weeks(1);
            x.ask(1, 0, asked, 0);
            due("allot", asked, x.allot(0));
            due("crates of the first", 5 - Math.min(asked, 5), x.lot(0, 1));
            due("in the port of the first", 5 - Math.min(asked, 5), x.lot(0, 11));
            due("crates of another sort", 5, x.lot(1, 1));
            due("crates of the last", asked == 6 ? 4 : 5, x.lot(2, 1));
            due("in the port of the last", asked == 6 ? 4 : 5, x.lot(2, 11));
            due("one new lot", 4, x.count(1));
        }
        sentence("ALLOT: of STOCK of it in the port (not at work)");
        LendHouse z = stocked(3, "lend");
        z.order(0, 5);
        z.ask(1, 0, 9, 0);
        due("what is made", 3, z.allot(0));
        due("what is at work stays", 5, z.lot(1, 1));
    }

    private static void allotByLend() {
        sentence("ALLOT: if some lend LINE holds for it (else the REQUEST is passed by)");
        LendHouse x = stocked(9, "lend if land>1");
        x.ask(1, 0, 5, 0);
        x.ask(2, 0, 5, 1);
        due("the first is passed by", 5, x.allot(0));
        due("it has nothing", 0, x.weigh(0, 3));
        due("it is open still", 1, x.count(5));
        due("nothing more", 0, x.allot(0));
        LendHouse y = stocked(9, "mark 5;owe 5;give");
        y.ask(1, 0, 5, 0);
        due("no lend LINE at all", 0, y.allot(0));
        LendHouse z = new LendHouse();
        z.order(0, 5);
        z.ask(1, 0, 5, 0);
        z.weeks(1);
        due("no ACT", 0, z.allot(0));
        act(z, 2, "lend");
        due("an ACT from the next WEEK on", 0, z.allot(0));
        z.weeks(1);
        due("it is in force", 5, z.allot(0));
        sentence("FACTS: crates: that would be allotted (lend, owe), asked for in all (mark)");
        for (int there = 4; there <= 6; there++) {
            LendHouse w = stocked(there, "lend if crates<6;owe 50 if crates<5;owe 20;mark 3 if crates>9");
            w.price(0, 1, 100);
            w.ask(1, 0, 10, 0);
            due("would be " + there, there < 6 ? there : 0, w.allot(0));
            due("owed", there == 4 ? 200 : there == 5 ? 100 : 0, w.land(1, 2));
            due("mark", 3, w.weigh(0, 0));
            due("by all it asked for it would not be lent", NONE, w.weigh(0, 2));
        }
    }

    private static void allotHundred() {
        sentence("14: it ends as 100 LOTS are there (what is not allotted stays)");
        for (int lots = 98; lots <= 100; lots++) {
            LendHouse x = new LendHouse();
            act(x, 0, "lend");
            for (int i = 0; i < lots; i++) {
                x.order(0, 2);
            }
            x.weeks(1);
            for (int land = 1; land <= 3; land++) {
                x.ask(land, 0, 3, 0);
            }
            due("with " + lots, 3 * (100 - lots), x.allot(0));
            due("lots", 100, x.count(1));
            due("open", 3 - (100 - lots), x.count(5));
            due("in the port", 2 * lots, x.count(13));
            due("of stock 0", lots < 100 ? 0 : 2, x.lot(0, 1));
            due("no more", 0, x.allot(0));
            if (lots < 100) {
                yes("the first allotment is to be undone", x.undo());
                due("lots", lots, x.count(1));
            } else {
                due("the weeks are to be undone", 1, bit(x.undo()));
                due("week", 0, x.count(0));
            }
        }
    }

    private static void newLots() {
        sentence("14: a new LOT, LENT to that LAND, in the port");
        LendHouse x = stocked(9, "lend");
        x.weeks(4);
        x.ask(5, 0, 4, 0);
        x.allot(0);
        int[] lot = {0, 4, 5, 0, 0, 0, 5, 0, NONE, 0, 0, 4, 0, 0, 0, 0, 0, 0, 0};
        for (int what = 0; what <= 18; what++) {
            due("lot(1, " + what + ")", lot[what], x.lot(1, what));
        }
        sentence("9: WEEK in which it was allotted, 0 too");
        LendHouse y = new LendHouse();
        act(y, 0, "lend");
        y.order(0, 3);
        y.weeks(1);
        y.ask(1, 0, 1, 0);
        y.allot(0);
        due("week 1", 1, y.lot(1, 6));
        due("of stock", NONE, y.lot(0, 6));
    }

    private static void labels() {
        sentence("15: a label, 0 to 9, on a LENT LOT as it lies in the port: whether it was another one");
        LendHouse x = lent(3, "lend");
        no("0 as at first", x.label(1, 0));
        for (int label = 1; label <= 9; label++) {
            yes("label " + label, x.label(1, label));
            due("label", label, x.lot(1, 7));
            no("label " + label + " again", x.label(1, label));
        }
        yes("back to 0", x.label(1, 0));
        due("label", 0, x.lot(1, 7));
        sentence("15: false if no crate of it is in the port");
        x.ship(100, 0);
        x.load(0, 1, 2);
        yes("one crate is there", x.label(1, 3));
        x.load(0, 1, 1);
        no("none is there", x.label(1, 4));
        due("the label stays", 3, x.lot(1, 7));
        no("the same one", x.label(1, 3));
        LendHouse y = lent(3, "lend");
        y.over();
        yes("behind THE END, too", y.label(1, 9));
        due("the label", 9, y.lot(1, 7));
    }

    private static void gifts() {
        sentence("24: so many landed, n above 0");
        LendHouse x = landed(20, "lend;give");
        due("none", NONE, x.give(1, 0, 2, true));
        due("21 of 20", NONE, x.give(1, 21, 2, true));
        due("1 of 20", 2, x.give(1, 1, 2, true));
        due("20 of 19", NONE, x.give(1, 20, 2, true));
        due("19 of 19", 3, x.give(1, 19, 5, true));
        due("1 of none", NONE, x.give(1, 1, 2, true));
        int[] lot = {0, 19, 5, 0, 0, 0, NONE, 0, 1, 0, 0, 0, 0, 19, 0, 0, 0, 0, 0};
        sentence("GIVEN ON: a new LOT there, landed, of which the first one is the SOURCE");
        for (int what = 0; what <= 18; what++) {
            due("lot(3, " + what + ")", lot[what], x.lot(3, what));
        }
        due("given on", 20, x.lot(1, 15));
        due("landed", 0, x.lot(1, 13));
        due("on from there, back to the first", 4, x.give(3, 19, 1, true));
        due("the source of it", 3, x.lot(4, 8));
        due("landed in 1", 19, x.land(1, 3));
        sentence("GIVEN ON: if some give LINE holds, or by force (it is WRONG then)");
        LendHouse y = landed(20, "lend;give if crates<5;give if to>4");
        due("4", 2, y.give(1, 4, 2, false));
        due("5", NONE, y.give(1, 5, 2, false));
        due("5 to 5", 3, y.give(1, 5, 5, false));
        due("5 to 4", NONE, y.give(1, 5, 4, false));
        due("not wrong", 0, y.lot(2, 9) + y.lot(3, 9) + y.count(8));
        due("5 to 4 by force", 4, y.give(1, 5, 4, true));
        due("wrong", 1, y.lot(4, 9));
        due("wrong in all", 1, y.count(8));
        LendHouse none = landed(3, "lend");
        due("no give LINE", NONE, none.give(1, 1, 2, false));
        due("by force", 2, none.give(1, 1, 2, true));
        due("wrong", 1, none.lot(2, 9));
        due("wrong from there, too", 3, none.give(2, 1, 3, true));
        due("wrong in all", 2, none.count(8));
        sentence("24: there are 100");
        for (int i = none.count(1); i < 99; i++) {
            none.order(1, 1);
        }
        due("the hundredth", 99, none.give(1, 1, 2, true));
        due("one more", NONE, none.give(1, 1, 2, true));
        due("landed still", 1, none.lot(1, 13));
    }

    private static void giveFacts() {
        sentence("FACTS: land: that gives on; crates: that are given; tons: crates times TONS; to: that is given to");
        LendHouse x = landed(20, "lend;give if land<2 and land>0 and sort<1 and week<3 and week>1 and crates<4 and crates>2"
                + " and tons<16 and tons>14 and price<8 and price>6 and had<21 and had>19 and to<4 and to>2"
                + " and rocks<2 and rocks>0 and hunger<1");
        x.sort(0, 5, 0, 0, 1);
        x.price(0, 2, 7);
        x.rock(1, 5, 0, 0);
        due("4 crates", NONE, x.give(1, 4, 3, false));
        due("2 crates", NONE, x.give(1, 2, 3, false));
        due("to 2", NONE, x.give(1, 3, 2, false));
        due("to 4", NONE, x.give(1, 3, 4, false));
        due("all of it holds", 2, x.give(1, 3, 3, false));
        due("not from 3", NONE, x.give(2, 3, 1, false));
        sentence("FACTS: sort: of what is given on");
        for (int sort = 0; sort <= 7; sort++) {
            LendHouse y = landedOf(2, sort, 6, "lend;give if sort<" + (sort + 1) + (sort > 0 ? " and sort>" + (sort - 1) : ""));
            due("give of SORT " + sort, 2, y.give(1, 2, 3, false));
            due("its SORT", sort, y.lot(2, 0));
            act(y, 2, "give if sort>" + sort);
            due("a greater SORT is meant", NONE, y.give(1, 2, 3, false));
            y.seen(3, sort, 9);
            due("given on there of that SORT", 7, y.whence(3, sort, false));
        }
        sentence("FACTS: to: 0 but for give");
        act(x, 2, "mark 1 if to<1;lend if to<1;owe 9 if to<1;mark 2 if to>0");
        x.ask(2, 0, 1, 0);
        due("mark", 1, x.weigh(1, 0));
        due("lend", 1, x.weigh(1, 2));
        due("owe", 9, x.weigh(1, 5));
    }

    private static void secondLots() {
        sentence("OWED, BALANCE: of all LOTS of a LAND together");
        LendHouse x = new LendHouse();
        act(x, 0, "lend;owe 10");
        x.price(0, 0, 10);
        x.order(0, 30);
        x.ask(1, 0, 10, 0);
        x.ask(1, 0, 7, 1);
        x.ask(2, 0, 5, 2);
        x.weeks(1);
        x.allot(0);
        x.way(1, 1);
        x.way(2, 1);
        x.ship(100, 0);
        x.ship(100, 0);
        x.load(0, 1, 10);
        x.load(0, 2, 7);
        x.load(1, 3, 5);
        x.sail(0, 1);
        x.sail(1, 2);
        x.weeks(1);
        due("owed", 17, x.land(1, 2));
        due("owed by the other", 5, x.land(2, 2));
        due("balance", 17, x.balance(1, 2, 0));
        due("landed", 17, x.land(1, 3));
        due("must be, as now", 17, x.mustBe(1, 0, 2));
        x.need(1, 0, 12);
        x.weeks(1);
        due("must be, at the end of a WEEK that is over", 17, x.mustBe(1, 0, 2));
        due("must be, of the other LAND", 5, x.mustBe(2, 0, 2));
        due("must be, as now", 5, x.mustBe(1, 0, 3));
        due("used of the first LOT", 10, x.lot(1, 14));
        due("used of the second LOT", 2, x.lot(2, 14));
        x.back(1, 0, 2);
        x.back(1, 0, 3);
        x.back(2, 0, 4);
        x.load(0, 4, 2);
        x.load(0, 5, 3);
        x.load(1, 6, 4);
        x.sail(0, 0);
        x.weeks(1);
        due("two BACK LOTS have come back", 12, x.balance(1, 2, 0));
        due("none of the other LAND", 5, x.balance(2, 2, 0));
        x.sail(1, 0);
        x.weeks(1);
        due("one of the other LAND", 1, x.balance(2, 2, 0));
        due("no more of the first", 12, x.balance(1, 2, 0));
        due("of a third LAND", 0, x.balance(3, 2, 0));
    }

    private static void backLots() {
        sentence("25: a BACK LOT of a LAND, landed there; crates 1 to 1000; LAND 1 to 5; SORT 0 to 7");
        LendHouse x = new LendHouse();
        due("the least", 0, x.back(1, 0, 1));
        due("the greatest", 1, x.back(5, 7, 1000));
        int[] lot = {7, 1000, 5, 1, 0, 0, NONE, 0, NONE, 0, 0, 0, 0, 1000, 0, 0, 0, 0, 0};
        for (int what = 0; what <= 18; what++) {
            due("lot(1, " + what + ")", lot[what], x.lot(1, what));
        }
        due("not among what was lent", 0, x.land(5, 3));
        sentence("LOTS: at most 100");
        for (int i = 2; i < 100; i++) {
            due("back", i, x.back(2, 2, 2));
        }
        due("lots", 100, x.count(1));
        due("landed", 1001 + 196, x.count(15));
        sentence("THE END: all crates that are landed are left");
        due("over", 1001 + 196, x.over());
        due("left", 1000, x.lot(1, 18));
    }

    /** What LAND 1 owes for so many crates at a PRICE, with an owe LINE. */
    private static long owes(int crates, int price, String owe) {
        LendHouse x = new LendHouse();
        act(x, 0, "lend" + owe);
        x.price(0, 0, price);
        x.order(0, crates);
        x.ask(1, 0, crates, 0);
        x.weeks(1);
        x.allot(0);
        return x.land(1, 2);
    }

    private static void owed() {
        sentence("OWED: PRICE times the greatest owe LINE, by 100, for each LOT rounded down");
        due("99 by 100", 0, owes(1, 1, ";owe 99"));
        due("100 by 100", 1, owes(1, 1, ";owe 100"));
        due("199 by 100", 1, owes(1, 199, ";owe 1"));
        due("200 by 100", 2, owes(1, 200, ";owe 1"));
        due("the most", 1000000, owes(1000, 1000, ";owe 100"));
        due("owe 0", 0, owes(1000, 1000, ";owe 0"));
        due("0 without", 0, owes(1000, 1000, ""));
        due("price 0", 0, owes(1000, 0, ";owe 100"));
        due("the greatest", 9, owes(1, 100, ";owe 9;owe 8;owe 100 if 2<1"));
        due("by what is allotted", 50, owes(10, 10, ";owe 50 if crates>9;owe 10"));
        LendHouse x = stocked(3, "lend;owe 33");
        x.price(0, 1, 3);
        for (int i = 0; i < 3; i++) {
            x.ask(1, 0, 1, 0);
        }
        x.allot(0);
        due("three times 99 by 100", 0, x.land(1, 2));
        sentence("OWED: of its crates that are not back or left");
        LendHouse y = new LendHouse();
        act(y, 0, "lend;owe 50;give");
        y.price(0, 0, 10);
        y.order(0, 50);
        y.ask(1, 0, 50, 0);
        y.weeks(1);
        y.allot(0);
        due("in the port", 250, y.land(1, 2));
        y.ship(100, 63);
        y.ship(100, 0);
        y.way(1, 1);
        y.load(0, 1, 20);
        y.load(1, 1, 20);
        due("in SHIPS", 250, y.land(1, 2));
        y.sail(0, 1);
        y.sail(1, 1);
        y.risk(1, 2, 50);
        y.need(1, 0, 3);
        y.weeks(1);
        due("lost", 20, y.land(1, 4));
        due("lost is owed, used is owed", 250, y.land(1, 2));
        y.give(1, 4, 2, false);
        due("given on is owed by the first", 250, y.land(1, 2));
        due("and not by the other", 0, y.land(2, 2));
        due("over: 13 there and 4 in the other land are left", 17, y.over());
        due("left is not owed, but what was given on is", 5 * (50 - 13), y.land(1, 2));
    }

    private static void balances() {
        sentence("BALANCE: what was lent (ever landed) less what has come back: by PRICE of a WEEK, HANDS, TONS");
        LendHouse x = landed(10, "lend");
        x.sort(0, 4, 0, 3, 1);
        x.price(0, 2, 5);
        x.price(0, 500, 7);
        due("price of 1", 0, x.balance(1, 0, 1));
        due("price of 2", 50, x.balance(1, 0, 2));
        due("price of 499", 50, x.balance(1, 0, 499));
        due("price of 500", 70, x.balance(1, 0, 500));
        due("price of a week far ahead", 70, x.balance(1, 0, MAX));
        due("price of a week far behind", 0, x.balance(1, 0, MIN));
        due("hands, whatever the week", 30, x.balance(1, 1, MIN));
        due("tons, whatever the week", 40, x.balance(1, 2, MAX));
        due("another land", 0, x.balance(2, 2, 0));
        sentence("BALANCE: below 0, if more has come back");
        int back = x.back(1, 0, 500);
        int other = x.back(1, 7, 600);
        due("not yet", 40, x.balance(1, 2, 0));
        x.load(0, back, 500);
        x.load(0, other, 600);
        x.sail(0, 0);
        x.weeks(1);
        due("come back", 500, x.lot(back, 17));
        due("tons", 10 * 4 - 500 * 4 - 600, x.balance(1, 2, 0));
        due("hands", 10 * 3 - 500 * 3, x.balance(1, 1, 0));
        due("price", (10 - 500) * 5, x.balance(1, 0, 3));
        sentence("BALANCE: crates that ever landed, used ones, too");
        LendHouse y = landed(10, "lend");
        y.need(1, 0, 10);
        y.weeks(1);
        due("used", 10, y.balance(1, 2, 0));
        y.over();
        due("behind THE END", 10, y.balance(1, 2, 0));
    }

    private static void cash() {
        sentence("CASH: the first LOT for which its coin is not enough; none");
        LendHouse x = new LendHouse();
        act(x, 0, "lend");
        x.price(0, 0, 10);
        x.order(0, 60);
        for (int land = 1; land <= 5; land++) {
            x.ask(land, 0, land, land);
            x.ask(land, 0, 7, 100 + land);
        }
        due("no LOT is allotted", NONE, x.cash(0, 0, 0, 0, 0));
        x.weeks(1);
        x.allot(0);
        due("just enough for all", NONE, x.cash(80, 90, 100, 110, 120));
        due("one too little", 6, x.cash(79, 90, 100, 110, 120));
        due("one too little", 7, x.cash(80, 89, 100, 110, 120));
        due("one too little", 8, x.cash(80, 90, 99, 110, 120));
        due("one too little", 9, x.cash(80, 90, 100, 109, 120));
        due("one too little", 10, x.cash(80, 90, 100, 110, 119));
        due("just enough for the first of each", 6, x.cash(10, 20, 30, 40, 50));
        due("not for the first of the last", 5, x.cash(10, 20, 30, 40, 49));
        due("not for the first of all", 1, x.cash(9, 19, 29, 39, 49));
        due("the greatest coin", NONE, x.cash(MAX, MAX, MAX, MAX, MAX));
        due("no coin", 1, x.cash(0, MAX, MAX, MAX, MAX));
        sentence("CASH: crates times PRICE, the greatest");
        LendHouse y = new LendHouse();
        act(y, 0, "lend");
        y.price(0, 0, 1000);
        y.order(0, 1000);
        y.order(0, 1000);
        y.ask(5, 0, 1000, 0);
        y.ask(5, 0, 1000, 0);
        y.weeks(1);
        y.allot(0);
        due("one too little", 3, y.cash(0, 0, 0, 0, 1999999));
        due("enough", NONE, y.cash(0, 0, 0, 0, 2000000));
        due("one too little for the first", 2, y.cash(0, 0, 0, 0, 999999));
        sentence("CASH: a PRICE of 0 needs no coin");
        LendHouse z = lent(5, "lend");
        due("no coin, no price", NONE, z.cash(0, 0, 0, 0, 0));
    }

    public static void main(String[] args) {
        requests();
        weighing();
        facts();
        rocksAndHunger();
        allotByMark();
        allotAsMuch();
        allotByLend();
        allotHundred();
        newLots();
        labels();
        gifts();
        giveFacts();
        secondLots();
        backLots();
        owed();
        balances();
        cash();
        finish();
    }
}
