/** The edges of promises 4 to 9 and 37: SORTS, PRICES, the WORKS, ORDERS and their LOTS, the BEST ORDERS. */
public final class MakingEdgesTest extends Checks {
    private static void firstNumbers() {
        sentence("SORTS: TONS 1 at first");
        for (int sort = 0; sort <= 7; sort++) {
            LendHouse x = new LendHouse();
            act(x, 0, "lend;mark 1 if tons>0;mark 2 if tons>1");
            x.order(sort, 2);
            x.ask(1, sort, 1, 0);
            due("tons of a crate", 1, x.weigh(0, 0));
            sentence("SORTS: STEEL, HANDS 0 at first, WEEKS 1 at first; STEEL, HANDS of the WORKS 0 at first");
            x.weeks(1);
            due("begun without steel", 1, x.lot(0, 5));
            due("made without hands in one week", 2, x.lot(0, 11));
            due("weeks of work", 1, x.lot(0, 4));
            due("balance by hands", 0, x.balance(1, 1, 0));
        }
        sentence("WORKS: STEEL 0 at first, HANDS 0 at first");
        LendHouse y = new LendHouse();
        y.sort(0, 1, 1, 0, 1);
        y.sort(1, 1, 0, 1, 1);
        y.order(0, 1);
        y.order(1, 1);
        y.weeks(1);
        due("no steel", 0, y.lot(0, 5));
        due("begun", 1, y.lot(1, 5));
        due("no hands", 0, y.lot(1, 4));
    }

    private static void tons() {
        sentence("SORTS: TONS 1 to 20");
        for (int tons = 1; tons <= 20; tons += 19) {
            LendHouse x = lent(2, "lend");
            x.sort(0, tons, 0, 0, 1);
            if (tons > 1) {
                x.ship(tons - 1, 0);
                no("a crate is too heavy for one less", x.load(0, 1, 1));
            } else {
                x.ship(1, 0);
            }
            x.ship(tons, 0);
            no("two are too heavy", x.load(1, 1, 2));
            yes("one is not", x.load(1, 1, 1));
            due("tons", tons, x.led(1, 3));
        }
        sentence("4: TONS, STEEL, HANDS, WEEKS of a SORT, and of no other");
        LendHouse y = new LendHouse();
        y.sort(6, 20, 50, 50, 9);
        y.order(5, 1);
        y.order(7, 1);
        y.order(6, 1);
        y.weeks(1);
        due("sort 5", 1, y.lot(0, 11));
        due("sort 7", 1, y.lot(1, 11));
        due("sort 6", 0, y.lot(2, 5));
    }

    private static void steel() {
        sentence("SORTS: STEEL 0 to 50; BEGUN if there is as much STEEL as all its crates need (it is taken then)");
        LendHouse x = new LendHouse();
        x.sort(0, 1, 50, 0, 2);
        x.order(0, 3);
        x.works(149, 0);
        x.weeks(1);
        due("one too little", 0, x.lot(0, 5));
        due("no work", 0, x.lot(0, 4));
        due("nothing taken", 149, x.count(2));
        x.works(1, 0);
        x.weeks(1);
        due("just so much", 1, x.lot(0, 5));
        due("from that week on", 1, x.lot(0, 4));
        due("all of it taken", 0, x.count(2));
        x.works(150, 0);
        x.weeks(1);
        due("taken once", 150, x.count(2));
        due("made", 3, x.lot(0, 11));
        sentence("SORTS: of one crate of STEEL 1");
        LendHouse y = new LendHouse();
        y.sort(0, 1, 1, 0, 1);
        y.order(0, 1);
        y.works(1, 0);
        y.weeks(1);
        due("taken", 0, y.count(2));
        sentence("ORDERS: BEGUN in its turn, by numbers");
        LendHouse z = new LendHouse();
        z.sort(0, 1, 1, 0, 1);
        z.works(10, 0);
        z.order(0, 7);
        z.order(0, 4);
        z.order(0, 3);
        z.order(0, 1);
        z.weeks(1);
        int[] begun = {1, 0, 1, 0};
        for (int lot = 0; lot < 4; lot++) {
            due("begun " + lot, begun[lot], z.lot(lot, 5));
        }
        sentence("WORKS: STEEL 1000000 at most, and all of it taken in a WEEK");
        LendHouse most = new LendHouse();
        most.sort(0, 1, 50, 0, 1);
        for (int i = 0; i < 20; i++) {
            most.order(0, 1000);
        }
        due("works", 1000000, most.works(1000000, 0));
        most.weeks(1);
        due("begun", 1, most.lot(19, 5));
        due("steel", 0, most.count(2));
        due("works again", 1000000, most.works(1000000, 0));
    }

    private static void hands() {
        sentence("SORTS: HANDS 0 to 50; one WEEK's work if as many HANDS are left as all its crates need");
        LendHouse x = new LendHouse();
        x.sort(0, 1, 0, 50, 2);
        x.order(0, 3);
        x.works(0, 149);
        x.weeks(1);
        due("begun", 1, x.lot(0, 5));
        due("one hand too few", 0, x.lot(0, 4));
        x.works(0, 150);
        x.weeks(1);
        due("just so many", 1, x.lot(0, 4));
        x.weeks(1);
        due("hands come each week again", 3, x.lot(0, 11));
        sentence("7: HANDS are so many (not more by so many)");
        LendHouse y = new LendHouse();
        y.sort(0, 1, 0, 1, 1);
        y.order(0, 2);
        y.works(0, 2);
        y.works(0, 1);
        y.weeks(1);
        due("one hand alone", 0, y.lot(0, 4));
        y.works(0, 0);
        y.weeks(1);
        due("no hand", 0, y.lot(0, 4));
        y.works(0, 2);
        y.weeks(1);
        due("two hands", 2, y.lot(0, 11));
        sentence("ORDERS: work by numbers, of the HANDS that are left");
        LendHouse z = new LendHouse();
        z.sort(0, 1, 0, 1, 1);
        z.works(0, 10);
        z.order(0, 7);
        z.order(0, 4);
        z.order(0, 3);
        z.order(0, 1);
        z.weeks(1);
        int[] made = {7, 0, 3, 0};
        for (int lot = 0; lot < 4; lot++) {
            due("made " + lot, made[lot], z.lot(lot, 11));
        }
        z.weeks(1);
        due("the next week", 4, z.lot(1, 11));
        due("the next week", 1, z.lot(3, 11));
        sentence("WORKS: HANDS 0 to 1000000 a WEEK");
        for (int hands = 999999; hands <= 1000000; hands++) {
            LendHouse most = new LendHouse();
            most.sort(0, 1, 0, 50, 1);
            for (int i = 0; i < 20; i++) {
                most.order(0, 1000);
            }
            most.works(0, hands);
            most.weeks(1);
            due("the nineteenth of " + hands, 1000, most.lot(18, 11));
            due("the twentieth of " + hands, hands == 1000000 ? 1000 : 0, most.lot(19, 11));
        }
    }

    private static void weeksToMake() {
        sentence("SORTS: WEEKS to make it 1 to 9; with all WEEKS done its crates are in the port");
        for (int weeks = 1; weeks <= 9; weeks++) {
            LendHouse x = new LendHouse();
            x.sort(0, 1, 0, 0, weeks);
            x.order(0, 4);
            for (int week = 1; week < weeks; week++) {
                x.weeks(1);
                due("done", week, x.lot(0, 4));
                due("at work still", 4, x.lot(0, 10));
                due("not in the port", 0, x.lot(0, 11));
            }
            x.weeks(1);
            due("done", weeks, x.lot(0, 4));
            due("in the port", 4, x.lot(0, 11));
            due("not at work", 0, x.lot(0, 10));
            x.weeks(1);
            due("no more work", weeks, x.lot(0, 4));
        }
        sentence("4: of ORDERS, too, that lie");
        LendHouse y = new LendHouse();
        y.sort(0, 1, 5, 0, 2);
        y.order(0, 4);
        y.works(19, 3);
        y.weeks(1);
        due("19 for 20", 0, y.lot(0, 5));
        y.sort(0, 1, 4, 1, 2);
        y.weeks(1);
        due("19 for 16", 1, y.lot(0, 5));
        due("3 hands for 4", 0, y.lot(0, 4));
        y.sort(0, 1, 50, 0, 1);
        y.weeks(1);
        due("one week instead of two, and the steel was taken", 4, y.lot(0, 11));
        due("steel left", 3, y.count(2));
    }

    private static void worksSum() {
        sentence("7: STEEL comes: how much STEEL there is");
        LendHouse x = new LendHouse();
        due("none", 0, x.works(0, 0));
        due("one", 1, x.works(1, 0));
        due("as much as may be", 1000000, x.works(999999, 0));
        due("none more", 1000000, x.works(0, 1000000));
        due("count", 1000000, x.count(2));
        LendHouse y = new LendHouse();
        due("all at once", 1000000, y.works(1000000, 1000000));
    }

    private static void prices() {
        sentence("PRICE 0 to 1000; 0 at first; told for a WEEK on");
        LendHouse x = new LendHouse();
        due("at first", 0, x.cost(3, 0));
        due("the least", 1, x.price(3, 2, 0));
        due("the greatest", 2, x.price(3, 3, 1000));
        due("one less", 3, x.price(3, 5, 999));
        due("none again", 4, x.price(3, 7, 0));
        int[] costs = {0, 0, 0, 1000, 1000, 999, 999, 0, 0};
        for (int week = 0; week < costs.length; week++) {
            due("cost of " + week, costs[week], x.cost(3, week));
        }
        due("another sort", 0, x.cost(2, 4));
        due("another sort", 0, x.cost(4, 4));
        sentence("6: the PRICE of a WEEK (any)");
        due("ahead of all", 0, x.cost(3, -1));
        due("ahead of all", 0, x.cost(3, MIN));
        x.price(3, 0, 4);
        x.price(3, 500, 6);
        due("the first", 4, x.cost(3, 0));
        due("ahead of all still", 0, x.cost(3, -1));
        due("499", 0, x.cost(3, 499));
        due("500", 6, x.cost(3, 500));
        due("501", 6, x.cost(3, 501));
        due("the greatest int", 6, x.cost(3, MAX));
        sentence("PRICE: of one WEEK and SORT the latest counts");
        x.price(3, 3, 77);
        due("2", 0, x.cost(3, 2));
        due("3", 77, x.cost(3, 3));
        due("4", 77, x.cost(3, 4));
        due("5", 999, x.cost(3, 5));
        x.price(2, 3, 78);
        due("of another sort", 77, x.cost(3, 3));
        sentence("5: the WEEK is this one to 500");
        x.weeks(3);
        due("this one", 9, x.price(3, 3, 55));
        due("told for this one", 55, x.cost(3, 3));
        due("what was", 0, x.cost(3, 2));
        sentence("PRICE: at most 100 tellings; 5: how many tellings there are");
        LendHouse y = new LendHouse();
        for (int i = 1; i <= 100; i++) {
            due("telling", i, y.price(i % 8, i % 3, i));
        }
        due("the 99th", 99, y.cost(3, 0));
        due("the 100th", 100, y.cost(4, 1));
        due("the 101st", NONE, y.price(4, 1, 3));
        due("the 102nd", NONE, y.price(4, 500, 3));
        due("it was not told", 100, y.cost(4, 1));
        due("it was not told", 92, y.cost(4, 500));
    }

    private static void orders() {
        sentence("LOTS: at most 100, numbered from 0 on; crates 1 to 1000");
        LendHouse x = new LendHouse();
        for (int lot = 0; lot < 100; lot++) {
            due("order", lot, x.order(lot % 8, lot % 2 == 0 ? 1 : 1000));
            due("lots", lot + 1, x.count(1));
        }
        due("crates of the first", 1, x.lot(0, 1));
        due("at work of the first", 1, x.lot(0, 10));
        due("crates of the last", 1000, x.lot(99, 1));
        due("sort of the last", 3, x.lot(99, 0));
        due("at work", 50 + 50000, x.count(12));
        x.weeks(1);
        due("in the port", 50 + 50000, x.count(13));
        sentence("8: an ORDER: of STOCK, at work");
        LendHouse y = new LendHouse();
        y.order(7, 1000);
        int[] first = {7, 1000, 0, 0, 0, 0, NONE, 0, NONE, 0, 1000, 0, 0, 0, 0, 0, 0, 0, 0};
        for (int what = 0; what <= 18; what++) {
            due("lot(0, " + what + ")", first[what], y.lot(0, what));
        }
    }

    private static void bestOrders() {
        sentence("37: without an ORDER that is not BEGUN no bits");
        LendHouse x = new LendHouse();
        due("no orders", 0, x.bestOrders());
        x.price(0, 0, 9);
        x.order(0, 5);
        due("one", 1, x.bestOrders());
        x.weeks(1);
        due("it is begun", 0, x.bestOrders());
        x.back(1, 0, 9);
        due("BACK is no ORDER", 0, x.bestOrders());
        LendHouse lent = lent(3, "lend");
        lent.price(0, 1, 9);
        due("LENT is no ORDER", 0, lent.bestOrders());
        sentence("BEST ORDERS: STEEL together is there now");
        LendHouse y = new LendHouse();
        y.sort(0, 1, 3, 0, 1);
        y.price(0, 0, 1);
        y.order(0, 4);
        y.order(0, 5);
        y.works(26, 0);
        due("one too little for both", 2, y.bestOrders());
        y.works(1, 0);
        due("just enough for both", 3, y.bestOrders());
        sentence("BEST ORDERS: HANDS together are there a WEEK");
        LendHouse z = new LendHouse();
        z.sort(0, 1, 0, 3, 1);
        z.price(0, 0, 1);
        z.order(0, 4);
        z.order(0, 5);
        z.works(0, 26);
        due("one too few for both", 2, z.bestOrders());
        z.works(0, 27);
        due("just enough for both", 3, z.bestOrders());
        z.works(0, 12);
        due("just enough for the first", 1, z.bestOrders());
        z.works(0, 11);
        due("for none", 0, z.bestOrders());
        sentence("BEST ORDERS: PRICE now");
        LendHouse w = new LendHouse();
        w.sort(0, 1, 1, 0, 1);
        w.sort(1, 1, 1, 0, 1);
        w.price(0, 0, 5);
        w.price(1, 0, 4);
        w.price(1, 1, 6);
        w.works(1, 0);
        w.weeks(0);
        w.order(0, 1);
        w.order(1, 1);
        due("now", 1, w.bestOrders());
        LendHouse v = new LendHouse();
        v.sort(0, 1, 1, 0, 1);
        v.sort(1, 1, 1, 0, 1);
        v.price(0, 0, 5);
        v.price(1, 0, 4);
        v.price(1, 1, 6);
        v.weeks(1);
        v.works(1, 0);
        v.order(0, 1);
        v.order(1, 1);
        due("a week later", 2, v.bestOrders());
    }

    private static void bestOfSeveral() {
        sentence("BEST ORDERS: of several the least STEEL, then the least bits");
        LendHouse x = new LendHouse();
        x.sort(0, 1, 2, 1, 1);
        x.sort(1, 1, 1, 1, 1);
        x.price(0, 0, 5);
        x.price(1, 0, 5);
        x.works(100, 1);
        x.order(0, 1);
        x.order(1, 1);
        x.order(1, 1);
        due("less steel, then the first", 2, x.bestOrders());
        LendHouse free = new LendHouse();
        free.order(0, 1);
        due("what is worth nothing is not taken", 0, free.bestOrders());
        free.price(0, 0, 1);
        due("what is worth one is", 1, free.bestOrders());
        sentence("BEST ORDERS: the first 8 by numbers");
        LendHouse y = new LendHouse();
        y.price(0, 0, 1000);
        for (int i = 0; i < 7; i++) {
            y.order(0, 1000);
        }
        due("seven", 127, y.bestOrders());
        y.order(0, 1000);
        due("eight", 255, y.bestOrders());
        y.order(0, 1000);
        due("nine", 255, y.bestOrders());
        y.weeks(1);
        due("all are begun", 0, y.bestOrders());
        y.order(0, 1000);
        due("the next one is the first", 1, y.bestOrders());
        LendHouse z = new LendHouse();
        z.sort(0, 1, 1, 0, 1);
        z.price(0, 0, 1);
        z.price(1, 0, 1);
        z.order(0, 1);
        z.order(1, 1);
        for (int i = 0; i < 7; i++) {
            z.order(0, 1);
        }
        due("one needs no steel", 2, z.bestOrders());
        z.weeks(1);
        due("it is begun, so the ninth is the eighth", 0, z.bestOrders());
        z.works(8, 0);
        due("and there is steel for it", 255, z.bestOrders());
        z.works(1, 0);
        z.order(0, 1);
        due("no ninth", 255, z.bestOrders());
    }

    private static void behindTheEnd() {
        sentence("THE END: nothing is made any more");
        LendHouse x = new LendHouse();
        x.sort(0, 1, 0, 0, 2);
        x.order(0, 3);
        x.order(1, 3);
        x.weeks(1);
        due("in the port", 3, x.count(13));
        x.order(1, 4);
        x.over();
        x.weeks(5);
        due("half made stays", 3, x.lot(0, 10));
        due("work of it", 1, x.lot(0, 4));
        due("not begun", 0, x.lot(2, 5));
        due("in the port", 3, x.count(13));
        sentence("what may be told behind THE END");
        x.sort(0, 2, 2, 2, 2);
        due("price", 1, x.price(0, 6, 5));
        due("works", 9, x.works(9, 9));
        due("ask", 0, x.ask(1, 0, 1, 0));
        due("ship", 0, x.ship(1, 1));
        due("risk", 1, x.risk(1, 6, 1));
        due("returned", 1, x.returned(1, 0, 6, 1));
        due("seen", 1, x.seen(1, 0, 1));
        due("rock", 0, x.rock(1, 1, 1, 1));
        due("page", 0, x.page(1, 1));
        due("choice", 1, x.choice(1, 1, 1, 1));
        due("act", 1, act(x, 6, "lend"));
        x.way(1, 1);
        x.need(1, 0, 1);
        x.tons(1, 1);
        x.row(0, 0, 1, 1, 1);
        due("no hunger comes of it", 7, x.weeks(1));
        due("hunger", 0, x.land(1, 0));
    }

    public static void main(String[] args) {
        firstNumbers();
        tons();
        steel();
        hands();
        weeksToMake();
        worksSum();
        prices();
        orders();
        bestOrders();
        bestOfSeveral();
        behindTheEnd();
        finish();
    }
}
