/**
 * Each call that is refused: what it throws, which of several faults is named first, that it changes nothing; and each
 * call that answers that nothing happens.
 */
public final class RefusalsTest extends Checks {
    private static final Step NEW = x -> { };
    private static final Step BUSY = Checks::busy;
    private static final Step ENDED = x -> {
        busy(x);
        x.over();
    };
    private static final int[] NO_LAND = {-1, 6, MIN, MAX};
    private static final int[] NO_SORT = {-1, 8, MIN, MAX};

    /** A house that is busy, with so many calls more. */
    private static Step busyAnd(int calls, Step call) {
        return x -> {
            busy(x);
            for (int i = 0; i < calls; i++) {
                call.on(x);
            }
        };
    }

    private static int[] outside(int least, int most) {
        return new int[] {least - 1, most + 1, MIN, MAX};
    }

    private static int[] above(int most) {
        return new int[] {most + 1, MAX};
    }

    private static void sorts() {
        sentence("4 sort: no such SORT");
        each(BUSY, INDEX, "sort", NO_SORT, (x, n) -> x.sort(n, 1, 0, 0, 1));
        refused(BUSY, "sort 8, and all numbers are none", INDEX, x -> x.sort(8, 0, -1, 51, 10));
        sentence("4 sort: a number is none");
        each(BUSY, ARGUMENT, "tons", outside(1, 20), (x, n) -> x.sort(0, n, 5, 5, 5));
        each(BUSY, ARGUMENT, "steel", outside(0, 50), (x, n) -> x.sort(0, 5, n, 5, 5));
        each(BUSY, ARGUMENT, "hands", outside(0, 50), (x, n) -> x.sort(0, 5, 5, n, 5));
        each(BUSY, ARGUMENT, "weeks", outside(1, 9), (x, n) -> x.sort(0, 5, 5, 5, n));
    }

    private static void prices() {
        sentence("5 price: no such SORT");
        each(BUSY, INDEX, "sort", NO_SORT, (x, n) -> x.price(n, 4, 1));
        refused(BUSY, "sort 8, WEEK and PRICE are none", INDEX, x -> x.price(8, 3, 1001));
        sentence("5 price: the WEEK is not this one to 500");
        each(BUSY, ARGUMENT, "week", outside(4, 500), (x, n) -> x.price(0, n, 1));
        each(NEW, ARGUMENT, "week", outside(0, 500), (x, n) -> x.price(0, n, 1));
        sentence("5 price: the PRICE is none");
        each(BUSY, ARGUMENT, "price", outside(0, 1000), (x, n) -> x.price(0, 4, n));
        sentence("5 price: NONE, and it is not told, if there are 100");
        Step full = busyAnd(97, x -> x.price(2, 4, 1));
        idle(full, "price 101", NONE, x -> x.price(0, 4, 77));
        idle(full, "price 101 of a SORT without any", NONE, x -> x.price(7, 500, 77));
        refused(full, "price 101, no such SORT", INDEX, x -> x.price(8, 4, 1));
        refused(full, "price 101, a WEEK that is over", ARGUMENT, x -> x.price(0, 3, 1));
        refused(full, "price 101, a PRICE that is none", ARGUMENT, x -> x.price(0, 4, 1001));
        sentence("6 cost: no such SORT");
        each(BUSY, INDEX, "cost", NO_SORT, (x, n) -> x.cost(n, 0));
    }

    private static void worksAndOrders() {
        sentence("7 works: STEEL is below 0 or would be too much");
        each(NEW, ARGUMENT, "steel", outside(0, 1000000), (x, n) -> x.works(n, 1));
        int there = made(BUSY).count(2);
        each(BUSY, ARGUMENT, "steel", outside(0, 1000000 - there), (x, n) -> x.works(n, 1));
        each(busyAnd(1, x -> x.works(1000000 - x.count(2), 5)), ARGUMENT, "steel", above(0), (x, n) -> x.works(n, 1));
        sentence("7 works: HANDS are none");
        each(BUSY, ARGUMENT, "hands", outside(0, 1000000), (x, n) -> x.works(1, n));

        sentence("8 order: no such SORT");
        each(BUSY, INDEX, "order", NO_SORT, (x, n) -> x.order(n, 1));
        sentence("8 order: crates are none");
        each(BUSY, ARGUMENT, "crates", outside(1, 1000), (x, n) -> x.order(0, n));
        sentence("8 order: there are 100");
        Step full = busyAnd(87, x -> x.order(7, 1));
        due("LOTS", 100, made(full).count(1));
        refused(full, "order 101", SUPPORT, x -> x.order(0, 1));
        sentence("8 order: behind THE END");
        refused(ENDED, "order", STATE, x -> x.order(0, 1));
        sentence("8 order: of several exceptions the one told first");
        Step both = x -> {
            full.on(x);
            x.over();
        };
        refused(both, "there are 100, behind THE END", SUPPORT, x -> x.order(0, 1));
        refused(both, "crates are none, there are 100, behind THE END", ARGUMENT, x -> x.order(0, 0));
        refused(both, "all of it", INDEX, x -> x.order(8, 0));
        refused(ENDED, "crates are none, behind THE END", ARGUMENT, x -> x.order(0, 1001));
        refused(ENDED, "no such SORT, behind THE END", INDEX, x -> x.order(-1, 1));
        refused(BUSY, "no such SORT, crates are none", INDEX, x -> x.order(8, 0));

        sentence("9 lot: no such LOT");
        each(BUSY, INDEX, "lot", outside(0, 12), (x, n) -> x.lot(n, 0));
        each(NEW, INDEX, "lot", new int[] {-1, 0, 1, MIN, MAX}, (x, n) -> x.lot(n, 0));
        each(full, INDEX, "lot of a full table", outside(0, 99), (x, n) -> x.lot(n, 0));
        refused(BUSY, "no such LOT, another what", INDEX, x -> x.lot(13, 19));
        sentence("9 lot: another what");
        each(BUSY, ELEMENT, "what", outside(0, 18), (x, n) -> x.lot(0, n));
    }

    private static void acts() {
        sentence("10 act: the WEEK is none");
        for (int week : outside(4, 500)) {
            refusedText(BUSY, "act(" + week + ")", ARGUMENT, x -> x.act(week));
        }
        sentence("10 act: the text is wrong");
        Step wrong = busyAnd(1, x -> write(x, "lend;"));
        refusedText(wrong, "a wrong text", ARGUMENT, x -> x.act(4));
        sentence("10 act: there are 10");
        Step full = busyAnd(9, x -> act(x, 5, "lend"));
        due("ACTS", 10, made(full).count(3));
        refusedText(full, "act 11", SUPPORT, x -> act(x, 4, "mark 7"));
        refusedText(full, "act 11, empty", SUPPORT, x -> act(x, 4, ""));
        refusedText(full, "act 11 in a WEEK that is over", ARGUMENT, x -> act(x, 3, "mark 7"));
        refusedText(full, "act 11, a wrong text", ARGUMENT, x -> act(x, 4, "mark 7;"));
    }

    private static void requests() {
        sentence("12 ask: no such LAND, no such SORT");
        each(BUSY, INDEX, "land", NO_LAND, (x, n) -> x.ask(n, 0, 1, 1));
        each(BUSY, INDEX, "sort", NO_SORT, (x, n) -> x.ask(1, n, 1, 1));
        refused(BUSY, "LAND 6, crates are none", INDEX, x -> x.ask(6, 0, 0, 1));
        refused(BUSY, "LAND 0, no such SORT", INDEX, x -> x.ask(0, 8, 1, 1));
        sentence("12 ask: the LAND is 0");
        refused(BUSY, "LAND 0", ARGUMENT, x -> x.ask(0, 0, 1, 1));
        sentence("12 ask: crates are none");
        each(BUSY, ARGUMENT, "crates", outside(1, 1000), (x, n) -> x.ask(1, 0, n, 1));
        sentence("12 ask: drawn is none");
        each(BUSY, ARGUMENT, "drawn", outside(0, 9999), (x, n) -> x.ask(1, 0, 1, n));
        sentence("12 ask: there are 60");
        Step full = busyAnd(56, x -> x.ask(5, 7, 1, 1));
        refused(full, "ask 61", SUPPORT, x -> x.ask(1, 0, 1, 1));
        refused(full, "ask 61, the LAND is 0", ARGUMENT, x -> x.ask(0, 0, 1, 1));
        refused(full, "ask 61, crates are none", ARGUMENT, x -> x.ask(1, 0, 0, 1));
        refused(full, "ask 61, drawn is none", ARGUMENT, x -> x.ask(1, 0, 1, 10000));
        refused(full, "ask 61, no such SORT", INDEX, x -> x.ask(1, 8, 1, 1));

        sentence("13 weigh: no such REQUEST");
        each(BUSY, INDEX, "request", outside(0, 3), (x, n) -> x.weigh(n, 0));
        each(NEW, INDEX, "request", new int[] {-1, 0, 1}, (x, n) -> x.weigh(n, 0));
        each(full, INDEX, "request of a full table", outside(0, 59), (x, n) -> x.weigh(n, 0));
        refused(BUSY, "no such REQUEST, another what", INDEX, x -> x.weigh(4, 6));
        sentence("13 weigh: another what");
        each(BUSY, ELEMENT, "what", outside(0, 5), (x, n) -> x.weigh(0, n));
    }

    private static void allotments() {
        sentence("14 allot: no such SORT");
        each(BUSY, INDEX, "allot", NO_SORT, (x, n) -> x.allot(n));
        sentence("14 allot: behind THE END");
        refused(ENDED, "allot", STATE, x -> x.allot(0));
        refused(ENDED, "allot of no such SORT", INDEX, x -> x.allot(8));
        sentence("14 allot: nothing is there to be allotted");
        idle(NEW, "allot", 0, x -> x.allot(0));
        idle(BUSY, "allot", 0, x -> x.allot(7));

        sentence("15 label: no such LOT");
        each(BUSY, INDEX, "lot", outside(0, 12), (x, n) -> x.label(n, 1));
        refused(BUSY, "no such LOT, label is none", INDEX, x -> x.label(13, 10));
        sentence("15 label: it is none");
        each(BUSY, ARGUMENT, "label", outside(0, 9), (x, n) -> x.label(5, n));
        refused(BUSY, "a label that is none, on STOCK", ARGUMENT, x -> x.label(0, 10));
        sentence("15 label: whether it was another one");
        Step labelled = busyAnd(1, x -> x.label(5, 4));
        idle(labelled, "the same label", 0, x -> bit(x.label(5, 4)));
        idle(BUSY, "no label, as at first", 0, x -> bit(x.label(5, 0)));
        sentence("15 label: false if no crate of it is in the port");
        idle(BUSY, "all is landed", 0, x -> bit(x.label(2, 4)));
        idle(BUSY, "given on", 0, x -> bit(x.label(6, 4)));
        sentence("15 label: on a LENT LOT");
        Step stock = busyAnd(1, x -> {
            x.order(7, 5);
            x.weeks(1);
        });
        due("in the port", 5, made(stock).lot(13, 11));
        idle(stock, "STOCK in the port", 0, x -> bit(x.label(13, 4)));
        idle(BUSY, "BACK", 0, x -> bit(x.label(8, 4)));
    }

    private static void gifts() {
        sentence("24 give: no such LOT, no such LAND");
        each(BUSY, INDEX, "lot", outside(0, 12), (x, n) -> x.give(n, 1, 2, true));
        each(BUSY, INDEX, "land", NO_LAND, (x, n) -> x.give(3, 1, n, true));
        sentence("24 give: behind THE END");
        refused(ENDED, "give", STATE, x -> x.give(3, 1, 2, true));
        refused(ENDED, "give of STOCK", STATE, x -> x.give(0, 1, 2, true));
        refused(ENDED, "give of no such LOT", INDEX, x -> x.give(13, 1, 2, true));
        refused(ENDED, "give to no such LAND", INDEX, x -> x.give(3, 1, 6, true));
        int landed = made(BUSY).lot(3, 13);
        sentence("24 give: NONE if there are not so many landed (n above 0)");
        for (int n : outside(1, landed)) {
            idle(BUSY, "give of " + n, NONE, x -> x.give(3, n, 2, true));
        }
        idle(BUSY, "give of what is in a SHIP", NONE, x -> x.give(5, landedOf(x, 5) + 1, 2, true));
        sentence("24 give: NONE if the LOT is BACK or STOCK");
        idle(BUSY, "BACK", NONE, x -> x.give(8, 1, 2, true));
        idle(BUSY, "STOCK", NONE, x -> x.give(0, 1, 2, true));
        sentence("24 give: NONE if the LAND is its own or 0");
        idle(BUSY, "its own", NONE, x -> x.give(3, 1, 1, true));
        idle(BUSY, "the maker", NONE, x -> x.give(3, 1, 0, true));
        sentence("24 give: NONE if no give LINE holds (not by force)");
        idle(BUSY, "no give LINE", NONE, x -> x.give(3, 1, 3, false));
        Step full = busyAnd(87, x -> x.order(7, 1));
        sentence("24 give: NONE if there are 100");
        idle(full, "give of 100", NONE, x -> x.give(3, 1, 2, true));

        sentence("25 back: no such LAND, no such SORT");
        each(BUSY, INDEX, "land", NO_LAND, (x, n) -> x.back(n, 0, 1));
        each(BUSY, INDEX, "sort", NO_SORT, (x, n) -> x.back(1, n, 1));
        refused(BUSY, "LAND 0, no such SORT", INDEX, x -> x.back(0, 8, 1));
        sentence("25 back: the LAND is 0");
        refused(BUSY, "LAND 0", ARGUMENT, x -> x.back(0, 0, 1));
        sentence("25 back: crates are none");
        each(BUSY, ARGUMENT, "crates", outside(1, 1000), (x, n) -> x.back(1, 0, n));
        sentence("25 back: there are 100");
        refused(full, "back 101", SUPPORT, x -> x.back(1, 0, 1));
        sentence("25 back: behind THE END");
        refused(ENDED, "back", STATE, x -> x.back(1, 0, 1));
        sentence("25 back: of several exceptions the one told first");
        Step both = x -> {
            full.on(x);
            x.over();
        };
        refused(both, "there are 100, behind THE END", SUPPORT, x -> x.back(1, 0, 1));
        refused(both, "the LAND is 0, there are 100, behind THE END", ARGUMENT, x -> x.back(0, 0, 1));
        refused(both, "crates are none, there are 100, behind THE END", ARGUMENT, x -> x.back(1, 0, 0));
        refused(both, "no such SORT, and all else", INDEX, x -> x.back(0, 8, 0));
        refused(ENDED, "crates are none, behind THE END", ARGUMENT, x -> x.back(1, 0, 0));
    }

    private static int landedOf(LendHouse x, int lot) {
        return x.lot(lot, 13);
    }

    private static void ships() {
        sentence("16 ship: a number is none");
        each(BUSY, ARGUMENT, "hold", outside(1, 5000), (x, n) -> x.ship(n, 1));
        each(BUSY, ARGUMENT, "luck", outside(0, 99), (x, n) -> x.ship(1, n));
        sentence("16 ship: there are 12");
        Step full = busyAnd(6, x -> x.ship(9, 9));
        refused(full, "ship 13", SUPPORT, x -> x.ship(1, 1));
        refused(full, "ship 13, hold is none", ARGUMENT, x -> x.ship(0, 1));
        refused(full, "ship 13, luck is none", ARGUMENT, x -> x.ship(1, 100));

        sentence("17 way: no such LAND");
        each(BUSY, INDEX, "land", NO_LAND, (x, n) -> x.way(n, 1));
        refused(BUSY, "LAND 6, weeks are none", INDEX, x -> x.way(6, 7));
        sentence("17 way: the LAND is 0");
        refused(BUSY, "LAND 0", ARGUMENT, x -> x.way(0, 1));
        sentence("17 way: it is none");
        each(BUSY, ARGUMENT, "weeks", outside(1, 6), (x, n) -> x.way(1, n));

        sentence("18 risk: no such LAND");
        each(BUSY, INDEX, "land", NO_LAND, (x, n) -> x.risk(n, 4, 1));
        refused(BUSY, "LAND 6, WEEK and RISK are none", INDEX, x -> x.risk(6, 3, 101));
        sentence("18 risk: the LAND is 0");
        refused(BUSY, "LAND 0", ARGUMENT, x -> x.risk(0, 4, 1));
        sentence("18 risk: the WEEK is not this one to 500");
        each(BUSY, ARGUMENT, "week", outside(4, 500), (x, n) -> x.risk(1, n, 1));
        sentence("18 risk: it is none");
        each(BUSY, ARGUMENT, "risk", outside(0, 100), (x, n) -> x.risk(1, 4, n));
        sentence("18 risk: NONE likewise");
        Step told = busyAnd(98, x -> x.risk(5, 400, 1));
        idle(told, "risk 101", NONE, x -> x.risk(1, 4, 100));
        idle(told, "risk 101 of a LAND without any", NONE, x -> x.risk(4, 4, 100));
        refused(told, "risk 101, no such LAND", INDEX, x -> x.risk(6, 4, 1));
        refused(told, "risk 101, the LAND is 0", ARGUMENT, x -> x.risk(0, 4, 1));
        refused(told, "risk 101, a WEEK that is over", ARGUMENT, x -> x.risk(1, 3, 1));
        refused(told, "risk 101, it is none", ARGUMENT, x -> x.risk(1, 4, 101));
    }

    private static void voyages() {
        sentence("19 load: no such SHIP, no such LOT");
        each(BUSY, INDEX, "ship", outside(0, 5), (x, n) -> x.load(n, 5, 1));
        each(BUSY, INDEX, "lot", outside(0, 12), (x, n) -> x.load(5, n, 1));
        each(NEW, INDEX, "ship", new int[] {-1, 0, 1}, (x, n) -> x.load(n, 0, 1));
        sentence("19 load: behind THE END");
        refused(ENDED, "load", STATE, x -> x.load(5, 5, 1));
        refused(ENDED, "load of none", STATE, x -> x.load(5, 5, 0));
        refused(ENDED, "load of no such SHIP", INDEX, x -> x.load(6, 5, 1));
        refused(ENDED, "load of no such LOT", INDEX, x -> x.load(5, 13, 1));
        sentence("19 load: false if n is below 1");
        idle(BUSY, "load of 0", 0, x -> bit(x.load(5, 5, 0)));
        idle(BUSY, "load of -1", 0, x -> bit(x.load(5, 5, -1)));
        idle(BUSY, "load of the least int", 0, x -> bit(x.load(5, 5, MIN)));
        sentence("19 load: false if there are not so many");
        Step wide = busyAnd(1, x -> x.ship(5000, 1));
        int port = made(wide).lot(5, 11);
        idle(wide, "one more than there are", 0, x -> bit(x.load(6, 5, port + 1)));
        idle(wide, "the greatest int", 0, x -> bit(x.load(6, 5, MAX)));
        sentence("19 load: false if TONS would be above HOLD");
        idle(BUSY, "two crates more of 3 tons each in 9, beside two", 0, x -> bit(x.load(5, 5, 2)));
        sentence("19 load: false if it is another LAND");
        Step other = busyAnd(1, x -> {
            x.ship(5000, 1);
            x.load(6, 5, 1);
        });
        due("crates for LAND 3 in the port", 3, made(other).lot(4, 11));
        idle(other, "a LOT for another LAND", 0, x -> bit(x.load(6, 4, 1)));
        idle(BUSY, "BACK goods at home", 0, x -> bit(x.load(5, 8, 1)));
        idle(wide, "LENT goods that are landed, at home", 0, x -> bit(x.load(6, 2, 1)));
        idle(BUSY, "LENT goods in a LAND's port", 0, x -> bit(x.load(1, 2, 1)));
        idle(BUSY, "in a SHIP at sea", 0, x -> bit(x.load(0, 8, 1)));
        idle(BUSY, "in a SHIP that is lost", 0, x -> bit(x.load(2, 4, 1)));
        sentence("20 sail: no such SHIP, no such LAND");
        each(BUSY, INDEX, "ship", outside(0, 5), (x, n) -> x.sail(n, 1));
        each(BUSY, INDEX, "land", NO_LAND, (x, n) -> x.sail(5, n));
        sentence("20 sail: behind THE END");
        refused(ENDED, "sail", STATE, x -> x.sail(5, 1));
        refused(ENDED, "sail to where it may not", STATE, x -> x.sail(5, 2));
        refused(ENDED, "sail of no such SHIP", INDEX, x -> x.sail(6, 1));
        refused(ENDED, "sail to no such LAND", INDEX, x -> x.sail(5, 6));
        sentence("20 sail: false if it may not");
        idle(BUSY, "from home to home", 0, x -> bit(x.sail(5, 0)));
        idle(BUSY, "to another LAND than that of its crates", 0, x -> bit(x.sail(5, 2)));
        for (int land = 0; land <= 5; land++) {
            int to = land;
            idle(BUSY, "at sea to " + land, 0, x -> bit(x.sail(0, to)));
            idle(BUSY, "lost to " + land, 0, x -> bit(x.sail(2, to)));
        }
        for (int land = 1; land <= 5; land++) {
            int to = land;
            idle(BUSY, "from a LAND to " + land, 0, x -> bit(x.sail(1, to)));
        }
        sentence("21 led: no such SHIP");
        each(BUSY, INDEX, "ship", outside(0, 5), (x, n) -> x.led(n, 0));
        each(NEW, INDEX, "ship", new int[] {-1, 0, 1}, (x, n) -> x.led(n, 0));
        refused(BUSY, "no such SHIP, another what", INDEX, x -> x.led(6, 6));
        sentence("21 led: another what");
        each(BUSY, ELEMENT, "what", outside(0, 5), (x, n) -> x.led(0, n));
    }

    private static void lands() {
        sentence("22 need: no such LAND, no such SORT");
        each(BUSY, INDEX, "land", NO_LAND, (x, n) -> x.need(n, 0, 1));
        each(BUSY, INDEX, "sort", NO_SORT, (x, n) -> x.need(1, n, 1));
        refused(BUSY, "LAND 0, no such SORT", INDEX, x -> x.need(0, 8, 1));
        sentence("22 need: the LAND is 0");
        refused(BUSY, "LAND 0", ARGUMENT, x -> x.need(0, 0, 1));
        sentence("22 need: it is none");
        each(BUSY, ARGUMENT, "need", outside(0, 1000), (x, n) -> x.need(1, 0, n));
        sentence("23 weeks: not 0 to 60");
        each(BUSY, ARGUMENT, "weeks", outside(0, 60), (x, n) -> x.weeks(n));
        sentence("23 weeks: none");
        idle(BUSY, "weeks(0)", 4, x -> x.weeks(0));

        sentence("26 land: no such LAND");
        each(BUSY, INDEX, "land", NO_LAND, (x, n) -> x.land(n, 0));
        refused(BUSY, "no such LAND, another what", INDEX, x -> x.land(6, 8));
        sentence("26 land: the LAND is 0");
        refused(BUSY, "LAND 0", ARGUMENT, x -> x.land(0, 0));
        refused(BUSY, "LAND 0, another what", ARGUMENT, x -> x.land(0, 8));
        sentence("26 land: another what");
        each(BUSY, ELEMENT, "what", outside(0, 7), (x, n) -> x.land(1, n));
        sentence("27 balance: no such LAND");
        each(BUSY, INDEX, "land", NO_LAND, (x, n) -> x.balance(n, 0, 0));
        refused(BUSY, "no such LAND, another what", INDEX, x -> x.balance(6, 3, 0));
        sentence("27 balance: the LAND is 0");
        refused(BUSY, "LAND 0", ARGUMENT, x -> x.balance(0, 0, 0));
        refused(BUSY, "LAND 0, another what", ARGUMENT, x -> x.balance(0, 3, 0));
        sentence("27 balance: another what");
        each(BUSY, ELEMENT, "what", outside(0, 2), (x, n) -> x.balance(1, n, 0));
    }

    private static void tellings() {
        sentence("28 returned: no such LAND, no such SORT");
        each(BUSY, INDEX, "land", NO_LAND, (x, n) -> x.returned(n, 0, 0, 1));
        each(BUSY, INDEX, "sort", NO_SORT, (x, n) -> x.returned(1, n, 0, 1));
        refused(BUSY, "LAND 0, no such SORT", INDEX, x -> x.returned(0, 8, 0, 1));
        sentence("28 returned: the LAND is 0");
        refused(BUSY, "LAND 0", ARGUMENT, x -> x.returned(0, 0, 0, 1));
        sentence("28 returned: the WEEK is not 0 to this one");
        each(BUSY, ARGUMENT, "week", outside(0, 4), (x, n) -> x.returned(1, 0, n, 1));
        each(NEW, ARGUMENT, "week", outside(0, 0), (x, n) -> x.returned(1, 0, n, 1));
        sentence("28 returned: crates not 0 to 100000");
        each(BUSY, ARGUMENT, "crates", outside(0, 100000), (x, n) -> x.returned(1, 0, 0, n));
        sentence("28 returned: NONE, and it is not told, if there are 100");
        Step full = busyAnd(92, x -> x.returned(5, 7, 0, 1));
        idle(full, "return 101", NONE, x -> x.returned(1, 0, 4, 1));
        refused(full, "return 101, no such SORT", INDEX, x -> x.returned(1, 8, 4, 1));
        refused(full, "return 101, the LAND is 0", ARGUMENT, x -> x.returned(0, 0, 4, 1));
        refused(full, "return 101, a WEEK ahead", ARGUMENT, x -> x.returned(1, 0, 5, 1));
        refused(full, "return 101, crates", ARGUMENT, x -> x.returned(1, 0, 4, 100001));
        sentence("29 mustBe: no such LAND, no such SORT");
        each(BUSY, INDEX, "land", NO_LAND, (x, n) -> x.mustBe(n, 0, 0));
        each(BUSY, INDEX, "sort", NO_SORT, (x, n) -> x.mustBe(1, n, 0));
        refused(BUSY, "LAND 0, no such SORT", INDEX, x -> x.mustBe(0, 8, 0));
        refused(BUSY, "no such LAND, a WEEK ahead", INDEX, x -> x.mustBe(6, 0, 5));
        sentence("29 mustBe: the LAND is 0");
        refused(BUSY, "LAND 0", ARGUMENT, x -> x.mustBe(0, 0, 0));
        sentence("29 mustBe: the WEEK is not 0 to this one");
        each(BUSY, ARGUMENT, "week", outside(0, 4), (x, n) -> x.mustBe(1, 0, n));

        sentence("30 seen: no such LAND, no such SORT");
        each(BUSY, INDEX, "land", NO_LAND, (x, n) -> x.seen(n, 0, 1));
        each(BUSY, INDEX, "sort", NO_SORT, (x, n) -> x.seen(1, n, 1));
        refused(BUSY, "LAND 0, no such SORT", INDEX, x -> x.seen(0, 8, 1));
        sentence("30 seen: the LAND is 0");
        refused(BUSY, "LAND 0", ARGUMENT, x -> x.seen(0, 0, 1));
        sentence("30 seen: crates are not 1 to 100000");
        each(BUSY, ARGUMENT, "crates", outside(1, 100000), (x, n) -> x.seen(1, 0, n));
        sentence("30 seen: NONE likewise, if there are 60");
        Step sights = busyAnd(57, x -> x.seen(5, 7, 1));
        idle(sights, "seen 61", NONE, x -> x.seen(1, 0, 100000));
        refused(sights, "seen 61, no such LAND", INDEX, x -> x.seen(6, 0, 1));
        refused(sights, "seen 61, the LAND is 0", ARGUMENT, x -> x.seen(0, 0, 1));
        refused(sights, "seen 61, crates", ARGUMENT, x -> x.seen(1, 0, 0));
        sentence("31 whence: no such LAND, no such SORT");
        each(BUSY, INDEX, "land", NO_LAND, (x, n) -> x.whence(n, 0, false));
        each(BUSY, INDEX, "land", NO_LAND, (x, n) -> x.whence(n, 0, true));
        each(BUSY, INDEX, "sort", NO_SORT, (x, n) -> x.whence(1, n, false));
        each(BUSY, INDEX, "sort", NO_SORT, (x, n) -> x.whence(1, n, true));
        refused(BUSY, "LAND 0, no such SORT", INDEX, x -> x.whence(0, 8, true));
        sentence("31 whence: the LAND is 0");
        refused(BUSY, "LAND 0", ARGUMENT, x -> x.whence(0, 0, false));
        refused(BUSY, "LAND 0", ARGUMENT, x -> x.whence(0, 0, true));
        sentence("44 tear: there is none such");
        each(NEW, ELEMENT, "row", new int[] {-1, 0, 1, 5, MIN, MAX}, (x, n) -> x.tear(n, 1));
        each(BUSY, ELEMENT, "row", outside(0, 5), (x, n) -> x.tear(n, 1));
        each(full, ELEMENT, "row of a full table", outside(0, 5), (x, n) -> x.tear(n, 1));
        Step two = x -> {
            x.returned(1, 0, 0, 1);
            x.returned(1, 0, 0, 1);
        };
        each(two, ELEMENT, "row of two", outside(0, 1), (x, n) -> x.tear(n, 1));
    }

    private static void bases() {
        sentence("32 rock: no such LAND");
        each(BUSY, INDEX, "land", NO_LAND, (x, n) -> x.rock(n, 1, 1, 1));
        refused(BUSY, "no such LAND, weeks are none", INDEX, x -> x.rock(6, 0, 1, 1));
        sentence("32 rock: the LAND is 0");
        refused(BUSY, "LAND 0", ARGUMENT, x -> x.rock(0, 1, 1, 1));
        sentence("32 rock: a number is none");
        each(BUSY, ARGUMENT, "weeks", outside(1, 500), (x, n) -> x.rock(1, n, 1, 1));
        each(BUSY, ARGUMENT, "cost", outside(0, 10000), (x, n) -> x.rock(1, 1, n, 1));
        each(BUSY, ARGUMENT, "yield", outside(0, 1000), (x, n) -> x.rock(1, 1, 1, n));
        sentence("32 rock: there are 10");
        Step full = busyAnd(8, x -> x.rock(5, 9, 1, 1));
        refused(full, "rock 11", SUPPORT, x -> x.rock(1, 1, 1, 1));
        refused(full, "rock 11, no such LAND", INDEX, x -> x.rock(6, 1, 1, 1));
        refused(full, "rock 11, the LAND is 0", ARGUMENT, x -> x.rock(0, 1, 1, 1));
        refused(full, "rock 11, weeks are none", ARGUMENT, x -> x.rock(1, 0, 1, 1));
        sentence("33 net: no such BASE");
        each(BUSY, INDEX, "net", outside(0, 1), (x, n) -> x.net(n));
        each(NEW, INDEX, "net", new int[] {-1, 0, 1}, (x, n) -> x.net(n));
        each(full, INDEX, "net of a full table", outside(0, 9), (x, n) -> x.net(n));
        sentence("34 over: NONE, and nothing happens, if it was");
        idle(ENDED, "over", NONE, x -> x.over());
        idle(busyAnd(1, x -> {
            x.over();
            x.weeks(1);
        }), "over, a WEEK behind THE END", NONE, x -> x.over());
    }

    private static void plans() {
        sentence("35 tons: no such LAND");
        each(BUSY, INDEX, "land", NO_LAND, (x, n) -> x.tons(n, 1));
        refused(BUSY, "no such LAND, tons are none", INDEX, x -> x.tons(6, -1));
        sentence("35 tons: the LAND is 0");
        refused(BUSY, "LAND 0", ARGUMENT, x -> x.tons(0, 1));
        sentence("35 tons: they are not 0 to 100000");
        each(BUSY, ARGUMENT, "tons", outside(0, 100000), (x, n) -> x.tons(1, n));
        sentence("38 page: a number is none");
        each(BUSY, ARGUMENT, "maker", outside(-10000, 10000), (x, n) -> x.page(n, 1));
        each(BUSY, ARGUMENT, "other", outside(-10000, 10000), (x, n) -> x.page(1, n));
        sentence("38 page: NONE, and it does not come, if there are 9");
        Step pages = busyAnd(6, x -> x.page(2, 2));
        idle(pages, "page 10", NONE, x -> x.page(10000, 10000));
        refused(pages, "page 10, maker is none", ARGUMENT, x -> x.page(10001, 1));
        refused(pages, "page 10, other is none", ARGUMENT, x -> x.page(1, -10001));
        sentence("40 choice: a number is none");
        each(BUSY, ARGUMENT, "cost", outside(0, 10000), (x, n) -> x.choice(n, 1, 1, 1));
        each(BUSY, ARGUMENT, "year", outside(0, 4), (x, n) -> x.choice(1, n, 1, 1));
        each(BUSY, ARGUMENT, "goods", outside(0, 10000), (x, n) -> x.choice(1, 1, n, 1));
        each(BUSY, ARGUMENT, "food", outside(0, 10000), (x, n) -> x.choice(1, 1, 1, n));
        sentence("40 choice: NONE, and it does not come, if there are 8");
        Step choices = busyAnd(6, x -> x.choice(2, 2, 2, 2));
        idle(choices, "choice 9", NONE, x -> x.choice(0, 0, 10000, 10000));
        refused(choices, "choice 9, cost is none", ARGUMENT, x -> x.choice(-1, 0, 0, 0));
        refused(choices, "choice 9, food is none", ARGUMENT, x -> x.choice(0, 0, 0, 10001));
        sentence("41 row: a number is none");
        each(BUSY, ARGUMENT, "row", outside(0, 2), (x, n) -> x.row(n, 2, 9, 9, 9));
        each(BUSY, ARGUMENT, "year", outside(0, 4), (x, n) -> x.row(0, n, 9, 9, 9));
        each(BUSY, ARGUMENT, "steel", outside(0, 100000), (x, n) -> x.row(0, 2, n, 9, 9));
        each(BUSY, ARGUMENT, "goods", outside(0, 100000), (x, n) -> x.row(0, 2, 9, n, 9));
        each(BUSY, ARGUMENT, "food", outside(0, 100000), (x, n) -> x.row(0, 2, 9, 9, n));
        sentence("43 cash: coin is below 0");
        int[] below = {-1, MIN};
        each(BUSY, ARGUMENT, "coin of 1", below, (x, n) -> x.cash(n, 1, 1, 1, 1));
        each(BUSY, ARGUMENT, "coin of 2", below, (x, n) -> x.cash(1, n, 1, 1, 1));
        each(BUSY, ARGUMENT, "coin of 3", below, (x, n) -> x.cash(1, 1, n, 1, 1));
        each(BUSY, ARGUMENT, "coin of 4", below, (x, n) -> x.cash(1, 1, 1, n, 1));
        each(BUSY, ARGUMENT, "coin of 5", below, (x, n) -> x.cash(1, 1, 1, 1, n));
    }

    private static void plansChangeNothing() {
        sentence("6: PLANS (nothing changes by them)");
        idle(BUSY, "hulls(NONE)", made(BUSY).hulls(NONE), x -> x.hulls(NONE));
        idle(BUSY, "hulls(5)", made(BUSY).hulls(5), x -> x.hulls(5));
        idle(BUSY, "bestOrders", made(BUSY).bestOrders(), x -> x.bestOrders());
        idle(BUSY, "signed", made(BUSY).signed(0, 0), x -> x.signed(0, 0));
        idle(BUSY, "lasts", made(BUSY).lasts(), x -> x.lasts());
        idle(BUSY, "cash", made(BUSY).cash(1, 1, 1, 1, 1), x -> x.cash(1, 1, 1, 1, 1));
        idle(BUSY, "check", made(BUSY).check(), x -> x.check());
        idle(BUSY, "count", 4, x -> x.count(0));
        idle(BUSY, "tear with 0", made(BUSY).tear(4, 0), x -> x.tear(4, 0));
    }

    private static void tape() {
        sentence("2 feed: NONE, and none come, if it would have more than 400");
        Step almost = busyAnd(1, x -> write(x, times(381, " ")));
        idle(almost, "feed behind 381", NONE, x -> x.feed(1, 2, 3, 4, 5));
        Step full = busyAnd(1, x -> write(x, "lend" + times(396, " ")));
        idle(full, "feed behind 400", NONE, x -> x.feed(1, 2, 3, 4, 5));
        sentence("3 end: false, and nothing happens, if it has fewer, or n is below 0");
        for (int n : new int[] {20, 21, MAX, -1, MIN}) {
            idle(BUSY, "end(" + n + ") of 19", 0, x -> bit(x.end(n)));
        }
        idle(BUSY, "end(19) of 19", 1, x -> bit(x.end(19)));
        idle(NEW, "end(1) of none", 0, x -> bit(x.end(1)));
        idle(NEW, "end(0) of none", 1, x -> bit(x.end(0)));
        idle(full, "end(401) of 400", 0, x -> bit(x.end(401)));
        sentence("46 undo: false, and nothing happens, if there is nothing to be undone");
        idle(NEW, "undo", 0, x -> bit(x.undo()));
        Step undone = busyAnd(1, LendHouse::undo);
        idle(undone, "undo twice", 0, x -> bit(x.undo()));
        Step gone = busyAnd(1, LendHouse::again);
        idle(gone, "undo behind again", 0, x -> bit(x.undo()));
        sentence("48 again: false, and nothing happens, if none was kept");
        Step noImage = x -> {
            x.order(0, 5);
            x.weeks(2);
        };
        idle(noImage, "again", 0, x -> bit(x.again()));
    }

    private static void lastWeek() {
        sentence("WEEK: 500 at last");
        Step last = busyAnd(9, x -> x.weeks(60));
        due("week", 500, made(last).count(0));
        idle(last, "weeks(60)", 500, x -> x.weeks(60));
        idle(last, "weeks(1)", 500, x -> x.weeks(1));
        idle(last, "weeks(0)", 500, x -> x.weeks(0));
        each(last, ARGUMENT, "price from WEEK", outside(500, 500), (x, n) -> x.price(0, n, 1));
        each(last, ARGUMENT, "risk from WEEK", outside(500, 500), (x, n) -> x.risk(1, n, 1));
        each(last, ARGUMENT, "return at WEEK", outside(0, 500), (x, n) -> x.returned(1, 0, n, 1));
        each(last, ARGUMENT, "mustBe at WEEK", outside(0, 500), (x, n) -> x.mustBe(1, 0, n));
        each(last, ARGUMENT, "weeks", outside(0, 60), (x, n) -> x.weeks(n));
        for (int week : outside(500, 500)) {
            refusedText(last, "act(" + week + ")", ARGUMENT, x -> x.act(week));
        }
    }

    public static void main(String[] args) {
        sorts();
        prices();
        worksAndOrders();
        acts();
        requests();
        allotments();
        gifts();
        ships();
        voyages();
        lands();
        tellings();
        bases();
        plans();
        plansChangeNothing();
        tape();
        lastWeek();
        finish();
    }
}
