/** The edges of promises 16 to 23, 35 and 36: SHIPS, ROUTES, what lands, NEED, HUNGER, MOOD, WEEKS, HULLS. */
public final class ShippingEdgesTest extends Checks {
    private static void ships() {
        sentence("SHIPS: at most 12, numbered from 0 on");
        LendHouse x = new LendHouse();
        for (int ship = 0; ship < 12; ship++) {
            due("ship", ship, x.ship(1 + ship, ship));
            due("ships", ship + 1, x.count(6));
        }
        sentence("16: a SHIP at home");
        int[] first = {0, 0, 0, 0, NONE, 0};
        for (int what = 0; what <= 5; what++) {
            due("led(11, " + what + ")", first[what], x.led(11, what));
        }
        sentence("SHIPS: HOLD 1 to 5000 tons");
        LendHouse y = lent(1000, "lend");
        y.sort(0, 5, 0, 0, 1);
        due("the greatest", 0, y.ship(5000, 99));
        due("one less", 1, y.ship(4999, 0));
        no("1000 crates of 5 tons in 4999", y.load(1, 1, 1000));
        yes("1000 crates of 5 tons in 5000", y.load(0, 1, 1000));
        due("tons", 5000, y.led(0, 3));
        LendHouse z = lent(2, "lend");
        due("the least", 0, z.ship(1, 0));
        no("two tons", z.load(0, 1, 2));
        yes("one ton", z.load(0, 1, 1));
        no("one ton more", z.load(0, 1, 1));
        LendHouse w = lent(2, "lend");
        w.sort(0, 2, 0, 0, 1);
        w.ship(1, 0);
        no("two tons", w.load(0, 1, 1));
    }

    private static void ways() {
        sentence("ROUTE: WAY in WEEKS 1 to 6; 2 at first");
        for (int weeks = 1; weeks <= 6; weeks++) {
            LendHouse x = new LendHouse();
            x.ship(1, 0);
            x.way(5, weeks);
            yes("sail", x.sail(0, 5));
            for (int week = 0; week < weeks; week++) {
                due("state", 1, x.led(0, 0));
                due("weeks left", weeks - week, x.led(0, 2));
                x.weeks(1);
            }
            due("in port", 2, x.led(0, 0));
            due("weeks left", 0, x.led(0, 2));
            due("land", 5, x.led(0, 1));
            yes("sail home", x.sail(0, 0));
            due("state", 3, x.led(0, 0));
            due("weeks left", weeks, x.led(0, 2));
            due("the ROUTE's LAND", 5, x.led(0, 1));
            x.weeks(weeks);
            due("at home", 0, x.led(0, 0));
            due("land", 0, x.led(0, 1));
            due("weeks left", 0, x.led(0, 2));
        }
        for (int land = 1; land <= 5; land++) {
            LendHouse y = new LendHouse();
            y.ship(1, 0);
            y.way(land == 5 ? 1 : land + 1, 6);
            y.sail(0, land);
            due("at first, to LAND " + land, 2, y.led(0, 2));
        }
        sentence("17: for SHIPS that sail from now on");
        LendHouse z = new LendHouse();
        z.ship(1, 0);
        z.sail(0, 1);
        z.way(1, 5);
        due("by the WAY of then", 2, z.led(0, 2));
        z.weeks(2);
        due("in port", 2, z.led(0, 0));
        z.sail(0, 0);
        due("home by the WAY of now", 5, z.led(0, 2));
    }

    /** A SHIP with that LUCK at sea in LAND 1's ROUTE, where the next WEEK is the one that is told. */
    private static LendHouse atSea(int luck, int week) {
        LendHouse x = new LendHouse();
        x.ship(1, luck);
        x.way(1, 6);
        for (int left = week - 1; left > 0; left -= 60) {
            x.weeks(Math.min(left, 60));
        }
        x.sail(0, 1);
        return x;
    }

    private static void lost(int luck, int week, int risk, boolean want) {
        LendHouse x = atSea(luck, week);
        x.risk(1, week, risk);
        x.weeks(1);
        due("LUCK " + luck + ", WEEK " + week + ", RISK " + risk, want ? 4 : 1, x.led(0, 0));
        due("the week it was lost", want ? week : NONE, x.led(0, 4));
        due("ships lost", want ? 1 : 0, x.count(7));
    }

    private static void losses() {
        sentence("16: LUCK 0 to 99; SHIPS lost, if LUCK and 37 times WEEK, modulo 100, are below the RISK");
        lost(0, 1, 37, false);
        lost(0, 1, 38, true);
        lost(99, 1, 36, false);
        lost(99, 1, 37, true);
        sentence("modulo 100: the sum that wraps around");
        lost(62, 1, 99, false);
        lost(62, 1, 100, true);
        lost(63, 1, 0, false);
        lost(63, 1, 1, true);
        lost(0, 100, 0, false);
        lost(0, 100, 1, true);
        lost(99, 100, 99, false);
        lost(99, 100, 100, true);
        lost(0, 500, 1, true);
        lost(1, 500, 1, false);
        lost(26, 2, 0, false);
        lost(26, 2, 1, true);
        lost(25, 2, 99, false);
        sentence("RISK 0 to 100; 0 at first; told for a WEEK on");
        LendHouse x = atSea(63, 1);
        x.weeks(1);
        due("0 at first", 1, x.led(0, 0));
        LendHouse y = atSea(0, 1);
        y.risk(1, 2, 100);
        y.risk(2, 0, 100);
        y.weeks(1);
        due("not yet, and not of another LAND", 1, y.led(0, 0));
        y.weeks(1);
        due("in that WEEK", 4, y.led(0, 0));
        due("in that WEEK", 2, y.led(0, 4));
        LendHouse z = atSea(0, 1);
        z.risk(1, 0, 100);
        z.risk(1, 1, 0);
        z.risk(1, 4, 100);
        z.risk(1, 4, 0);
        z.risk(1, 3, 0);
        z.weeks(5);
        due("of a WEEK the telling for the latest WEEK, of several the latest", 1, z.led(0, 0));
        due("weeks left", 1, z.led(0, 2));
        LendHouse w = atSea(0, 1);
        w.risk(1, 1, 100);
        w.weeks(3);
        due("it is lost once, in the first WEEK", 1, w.led(0, 4));
        due("at home no SHIP is lost", 1, w.ship(1, 63));
        w.weeks(3);
        due("at home no SHIP is lost", 0, w.led(1, 0));
    }

    private static void lossesOfCrates() {
        sentence("SHIPS: lost: its crates are lost; homeward, too");
        LendHouse x = lent(30, "lend");
        x.ship(100, 0);
        x.ship(100, 0);
        x.ship(100, 0);
        x.way(1, 1);
        x.load(0, 1, 10);
        x.load(1, 1, 5);
        x.risk(1, 2, 75);
        x.sail(0, 1);
        x.weeks(1);
        due("74 is below 75: lost", 4, x.led(0, 0));
        due("a lost one keeps its LAND", 1, x.led(0, 1));
        due("weeks left", 0, x.led(0, 2));
        due("tons", 0, x.led(0, 3));
        due("lots", 0, x.led(0, 5));
        due("lost", 10, x.lot(1, 16));
        due("lost on the way to it", 10, x.land(1, 4));
        due("never landed", 0, x.balance(1, 2, 0));
        x.risk(1, 3, 11);
        x.sail(1, 1);
        x.weeks(1);
        due("111 is 11, not below 11: in port", 2, x.led(1, 0));
        int back = x.back(1, 0, 7);
        x.load(1, back, 7);
        x.sail(1, 0);
        x.risk(1, 4, 49);
        x.weeks(1);
        due("148 is 48, below 49: lost homeward", 4, x.led(1, 0));
        due("it keeps its LAND", 1, x.led(1, 1));
        due("BACK goods are lost", 7, x.lot(back, 16));
        due("but not on the way to the LAND", 10, x.land(1, 4));
        due("they have not come back", 5, x.balance(1, 2, 0));
        due("lost in all", 17, x.count(18));
        due("ships lost", 2, x.count(7));
    }

    private static void risksTold() {
        sentence("RISK: at most 100 tellings in all; 18: how many tellings there are; NONE likewise");
        LendHouse x = new LendHouse();
        for (int i = 1; i <= 100; i++) {
            due("telling", i, x.risk(1 + i % 5, i % 7, i % 5 == 0 ? 0 : 1));
        }
        due("the 101st", NONE, x.risk(1, 0, 100));
        due("the 102nd", NONE, x.risk(1, 500, 100));
        x.tons(1, 1);
        x.ship(10, 0);
        due("it was not told", 0, x.hulls(NONE));
        sentence("18: the WEEK is this one to 500; RISK 0 to 100");
        LendHouse y = new LendHouse();
        y.weeks(3);
        y.ship(10, 0);
        y.tons(5, 1);
        due("this WEEK", 1, y.risk(5, 3, 100));
        due("the greatest", 1000, y.hulls(NONE));
        due("the next WEEK", 2, y.risk(5, 4, 0));
        due("the least", 0, y.hulls(NONE));
        due("the last WEEK", 3, y.risk(5, 500, 7));
        for (int i = 0; i < 8; i++) {
            y.weeks(60);
        }
        y.weeks(15);
        due("week", 498, y.count(0));
        due("the next WEEK is 499", 0, y.hulls(NONE));
        y.weeks(1);
        due("the next WEEK is 500", 70, y.hulls(NONE));
        y.weeks(1);
        due("the next WEEK would be 501", 70, y.hulls(NONE));
    }

    private static void loads() {
        sentence("19: n below 1; not so many there");
        LendHouse x = lent(20, "lend");
        x.ship(5000, 0);
        no("0", x.load(0, 1, 0));
        no("-1", x.load(0, 1, -1));
        no("21", x.load(0, 1, 21));
        no("the greatest int", x.load(0, 1, MAX));
        no("the least int", x.load(0, 1, MIN));
        yes("1", x.load(0, 1, 1));
        no("20 of 19", x.load(0, 1, 20));
        yes("19 of 19", x.load(0, 1, 19));
        no("1 of none", x.load(0, 1, 1));
        due("one LOT", 1, x.led(0, 5));
        due("tons", 20, x.led(0, 3));
        sentence("19: a number of crates whose TONS wrap around");
        LendHouse y = lent(1000, "lend");
        y.sort(0, 16, 0, 0, 1);
        y.ship(5000, 0);
        no("16 times 268435456", y.load(0, 1, 268435456));
        no("16 times 312 and 1 more", y.load(0, 1, 313));
        yes("16 times 312 is 4992", y.load(0, 1, 312));
        sentence("19: the TONS of all are not above HOLD");
        LendHouse z = new LendHouse();
        act(z, 0, "lend");
        z.sort(0, 3, 0, 0, 1);
        z.sort(1, 5, 0, 0, 1);
        z.order(0, 20);
        z.order(1, 20);
        z.ask(1, 0, 20, 0);
        z.ask(1, 1, 20, 0);
        z.weeks(1);
        z.allot(0);
        z.allot(1);
        z.ship(22, 0);
        yes("9", z.load(0, 2, 3));
        yes("9 and 10", z.load(0, 3, 2));
        no("9 and 15", z.load(0, 3, 1));
        yes("12 and 10", z.load(0, 2, 1));
        due("22", 22, z.led(0, 3));
        due("two LOTS", 2, z.led(0, 5));
        no("it is full", z.load(0, 2, 1));
    }

    private static void eightLots() {
        sentence("19: more than 8 LOTS");
        LendHouse x = new LendHouse();
        act(x, 0, "lend");
        x.order(0, 30);
        for (int i = 0; i < 10; i++) {
            x.ask(3, 0, 3, i);
        }
        x.weeks(1);
        x.allot(0);
        x.ship(100, 0);
        x.ship(100, 0);
        for (int lot = 1; lot <= 8; lot++) {
            yes("lot " + lot, x.load(0, lot, 1));
            due("lots", lot, x.led(0, 5));
        }
        no("a ninth", x.load(0, 9, 1));
        for (int lot = 1; lot <= 8; lot++) {
            yes("more of lot " + lot, x.load(0, lot, 1));
        }
        due("lots", 8, x.led(0, 5));
        due("tons", 16, x.led(0, 3));
        yes("the ninth in another SHIP", x.load(1, 9, 3));
        x.sail(0, 3);
        x.weeks(2);
        due("all eight are landed", 16, x.land(3, 3));
        for (int lot = 1; lot <= 8; lot++) {
            due("landed of " + lot, 2, x.lot(lot, 13));
        }
        for (int i = 0; i < 9; i++) {
            x.back(3, 1, 2);
        }
        for (int lot = 11; lot <= 18; lot++) {
            yes("BACK lot " + lot, x.load(0, lot, 1));
        }
        no("a ninth BACK lot", x.load(0, 19, 1));
        yes("more of the eighth", x.load(0, 18, 1));
        x.sail(0, 0);
        x.weeks(2);
        due("come back", 9, x.count(19));
        sentence("19: crates of a LOT of which some are in the SHIP, whatever their order");
        LendHouse y = new LendHouse();
        act(y, 0, "lend");
        y.order(0, 30);
        for (int i = 0; i < 3; i++) {
            y.ask(3, 0, 5, i);
        }
        y.weeks(1);
        y.allot(0);
        y.ship(100, 0);
        int[] lots = {2, 1, 3, 1, 2, 3, 1};
        for (int lot : lots) {
            yes("lot " + lot, y.load(0, lot, 1));
        }
        due("lots", 3, y.led(0, 5));
        y.sail(0, 3);
        y.weeks(2);
        due("landed of 1", 3, y.lot(1, 13));
        due("landed of 2", 2, y.lot(2, 13));
        due("landed of 3", 2, y.lot(3, 13));
        sentence("SHIPS: a SHIP that has come home is loaded anew");
        due("no LOTS", 0, x.led(0, 5));
        yes("loaded", x.load(0, 10, 3));
        yes("sails", x.sail(0, 3));
    }

    private static void allEightLand() {
        sentence("SHIPS: outward: its crates are landed, of all 8 LOTS");
        LendHouse x = new LendHouse();
        act(x, 0, "lend");
        for (int sort = 0; sort < 8; sort++) {
            x.order(sort, 9);
            x.ask(4, sort, 9, 0);
        }
        x.weeks(1);
        x.ship(5000, 0);
        for (int sort = 0; sort < 8; sort++) {
            x.allot(sort);
            x.label(8 + sort, 1 + sort);
            yes("load", x.load(0, 8 + sort, 1 + sort));
        }
        x.sail(0, 4);
        x.weeks(2);
        due("MOOD: 36 less, 1 nearer", -35, x.land(4, 1));
        for (int sort = 0; sort < 8; sort++) {
            due("landed of SORT " + sort, 1 + sort, x.lot(8 + sort, 13));
            due("landed there", 16, x.whence(1, sort, true));
        }
        due("landed in all", 36, x.balance(4, 2, 0));
        sentence("NEED: of each SORT by itself");
        for (int sort = 0; sort < 8; sort++) {
            LendHouse y = landedOf(3, sort, 10, "lend");
            for (int other = 0; other < 8; other++) {
                y.need(3, other, 1 + other);
            }
            y.weeks(1);
            due("used of SORT " + sort, 1 + sort, y.lot(1, 14));
            due("hunger for all others", 36 - (1 + sort), y.land(3, 0));
        }
    }

    private static void whereLoaded() {
        sentence("LOADED at home: crates of a LOT LENT to one LAND alone with what it has already");
        LendHouse x = new LendHouse();
        act(x, 0, "lend");
        x.order(0, 20);
        x.ask(1, 0, 5, 0);
        x.ask(2, 0, 5, 1);
        x.ask(1, 0, 5, 2);
        x.weeks(1);
        x.allot(0);
        x.ship(100, 0);
        no("STOCK", x.load(0, 0, 1));
        yes("for 1", x.load(0, 1, 1));
        no("for 2", x.load(0, 2, 1));
        yes("for 1, another LOT", x.load(0, 3, 1));
        no("to 2", x.sail(0, 2));
        no("to none", x.sail(0, 0));
        yes("to 1", x.sail(0, 1));
        no("at sea", x.load(0, 1, 1));
        x.weeks(2);
        no("LENT goods of the port, in a LAND", x.load(0, 1, 1));
        sentence("LOADED in a LAND: crates of a BACK LOT of it there");
        int back = x.back(1, 0, 4);
        int other = x.back(2, 0, 4);
        no("of another LAND", x.load(0, other, 1));
        no("more than there are", x.load(0, back, 5));
        yes("as many as there are", x.load(0, back, 4));
        no("none is left", x.load(0, back, 1));
        yes("sail home", x.sail(0, 0));
        no("at sea homeward", x.load(0, back, 1));
        no("at sea it sails not again", x.sail(0, 0));
        x.weeks(2);
        due("come back", 4, x.lot(back, 17));
        no("BACK goods that have come back", x.load(0, back, 1));
        no("BACK goods at home", x.load(0, other, 1));
        yes("home again, for another LAND than the last time", x.load(0, 2, 2));
        no("to the LAND of the last time", x.sail(0, 1));
        yes("to that of its crates", x.sail(0, 2));
        x.weeks(2);
        due("landed", 2, x.land(2, 3));
        yes("empty, home", x.sail(0, 0));
        x.weeks(2);
        yes("empty, to any LAND", x.sail(0, 5));
        sentence("LOADED in a LAND: the TONS of all are not above HOLD");
        LendHouse w = new LendHouse();
        act(w, 0, "lend");
        w.order(0, 20);
        for (int land = 1; land <= 3; land++) {
            w.ask(land, 0, 5, land);
        }
        w.weeks(1);
        w.allot(0);
        w.ship(100, 0);
        w.ship(100, 0);
        w.load(0, 2, 1);
        no("a LOT for a LAND ahead of that", w.load(0, 1, 1));
        no("a LOT for a LAND behind that", w.load(0, 3, 1));
        for (int land = 0; land <= 5; land++) {
            if (land != 2) {
                no("to LAND " + land, w.sail(0, land));
            }
        }
        w.sail(1, 2);
        w.weeks(2);
        int first = w.back(1, 0, 4);
        int third = w.back(3, 0, 4);
        int second = w.back(2, 0, 4);
        no("BACK goods of a LAND ahead of that", w.load(1, first, 1));
        no("BACK goods of a LAND behind that", w.load(1, third, 1));
        yes("BACK goods of it", w.load(1, second, 1));
        LendHouse y = new LendHouse();
        y.ship(10, 0);
        y.sail(0, 4);
        y.weeks(2);
        int heavy = y.back(4, 0, 11);
        no("11 tons", y.load(0, heavy, 11));
        yes("10 tons", y.load(0, heavy, 10));
        no("1 more", y.load(0, heavy, 1));
    }

    private static void needs() {
        sentence("NEED of so many crates a WEEK, 0 to 1000; 0 at first; used are so many, or as many as there are");
        for (int need = 9; need <= 11; need++) {
            LendHouse x = landed(10, "lend");
            x.weeks(1);
            due("0 at first", 10, x.land(1, 3));
            due("no hunger", 0, x.land(1, 0));
            x.need(1, 0, need);
            x.weeks(1);
            due("used of need " + need, Math.min(need, 10), x.lot(1, 14));
            due("hunger of need " + need, Math.max(0, need - 10), x.land(1, 0));
            x.need(1, 0, 0);
            x.weeks(1);
            due("no need: used", Math.min(need, 10), x.lot(1, 14));
            due("no need: hunger", Math.max(0, need - 10), x.land(1, 0));
        }
        LendHouse most = landed(1000, "lend");
        most.need(1, 0, 1000);
        most.need(1, 7, 1000);
        most.need(5, 0, 1);
        most.weeks(1);
        due("the greatest need", 1000, most.lot(1, 14));
        due("hunger for sort 7", 1000, most.land(1, 0));
        due("the least need", 1, most.land(5, 0));
        most.need(1, 0, 0);
        most.weeks(60);
        due("hunger in all", 61000, most.land(1, 0));
        sentence("NEED: of what is landed there (LENT to it, or given on to it; by LOTS)");
        LendHouse y = landed(10, "lend");
        y.give(1, 4, 2, true);
        y.give(2, 3, 1, true);
        y.back(1, 0, 9);
        y.need(1, 0, 7);
        y.weeks(1);
        due("the first LOT", 6, y.lot(1, 14));
        due("then what was given on", 1, y.lot(3, 14));
        y.weeks(1);
        due("the rest", 3, y.lot(3, 14));
        due("BACK goods are not used", 9, y.lot(4, 13));
        due("hunger", 5, y.land(1, 0));
        due("what is given on to another is not used", 1, y.lot(2, 13));
    }

    /** A LAND with that many crates, that NEED, and a MOOD of so much as they land; the week of the landing is over. */
    private static LendHouse offended(int label, int need) {
        LendHouse x = lent(50, "lend");
        x.label(1, label);
        x.ship(100, 0);
        x.way(1, 1);
        x.load(0, 1, 50);
        x.sail(0, 1);
        x.need(1, 0, need);
        x.weeks(1);
        return x;
    }

    private static void moods() {
        sentence("NEED: in a LAND whose MOOD is below 0 not more than half of NEED, rounded down");
        int[][] rows = {{1, 0}, {2, 1}, {3, 1}, {4, 2}, {7, 3}};
        for (int[] row : rows) {
            LendHouse x = offended(1, row[0]);
            due("used of " + row[0], row[1], x.lot(1, 14));
            due("hunger of " + row[0], row[0] - row[1], x.land(1, 0));
            due("MOOD is 1 nearer to 0", 0, x.land(1, 1));
            x.weeks(1);
            due("not below 0: all is used", row[1] + row[0], x.lot(1, 14));
            due("no more hunger", row[0] - row[1], x.land(1, 0));
            due("MOOD stays at 0", 0, x.land(1, 1));
        }
        LendHouse none = offended(0, 7);
        due("label 0", 7, none.lot(1, 14));
        due("MOOD", 0, none.land(1, 1));
        LendHouse all = offended(1, 1000);
        due("half of a great NEED, more than there is", 50, all.lot(1, 14));
        due("hunger", 950, all.land(1, 0));
        sentence("LABELS: each time that crates of it land by a SHIP the MOOD is so much less (however many crates)");
        due("50 crates", -8, offended(9, 0).land(1, 1));
        LendHouse y = lent(50, "lend");
        y.label(1, 9);
        y.way(1, 1);
        y.ship(100, 0);
        y.ship(100, 0);
        y.load(0, 1, 1);
        y.load(1, 1, 49);
        y.sail(0, 1);
        y.sail(1, 1);
        y.weeks(1);
        due("1 crate and 49 crates", -17, y.land(1, 1));
        due("another LAND", 0, y.land(2, 1));
        y.give(1, 5, 2, true);
        due("what is given on offends nobody", 0, y.land(2, 1));
        y.weeks(16);
        due("16 WEEKS later", -1, y.land(1, 1));
        y.weeks(1);
        due("17 WEEKS later", 0, y.land(1, 1));
        y.weeks(1);
        due("18 WEEKS later", 0, y.land(1, 1));
    }

    /** The MOOD behind the landing of LOTS with these labels, each in a SHIP of its own. */
    private static long moodBehind(int... labels) {
        LendHouse x = new LendHouse();
        act(x, 0, "lend");
        x.order(0, labels.length);
        x.way(1, 1);
        for (int i = 0; i < labels.length; i++) {
            x.ask(1, 0, 1, i);
            x.ship(1, 0);
        }
        x.weeks(1);
        x.allot(0);
        for (int i = 0; i < labels.length; i++) {
            x.label(1 + i, labels[i]);
            x.load(i, 1 + i, 1);
            x.sail(i, 1);
        }
        x.weeks(1);
        return x.land(1, 1);
    }

    private static void leastMood() {
        sentence("LABELS: MOOD - 100 at least");
        due("99 less, 1 nearer", -98, moodBehind(9, 9, 9, 9, 9, 9, 9, 9, 9, 9, 9));
        due("100 less, 1 nearer", -99, moodBehind(9, 9, 9, 9, 9, 9, 9, 9, 9, 9, 9, 1));
        due("101 less, 1 nearer", -99, moodBehind(9, 9, 9, 9, 9, 9, 9, 9, 9, 9, 9, 2));
        due("108 less, 1 nearer", -99, moodBehind(9, 9, 9, 9, 9, 9, 9, 9, 9, 9, 9, 9));
        sentence("LABELS: two LOTS in one SHIP");
        LendHouse x = new LendHouse();
        act(x, 0, "lend");
        x.order(0, 4);
        x.way(1, 1);
        x.ask(1, 0, 2, 0);
        x.ask(1, 0, 2, 1);
        x.ship(9, 0);
        x.weeks(1);
        x.allot(0);
        x.label(1, 3);
        x.label(2, 4);
        x.load(0, 1, 1);
        x.load(0, 1, 1);
        x.load(0, 2, 1);
        x.sail(0, 1);
        x.weeks(1);
        due("3 and 4, 1 nearer", -6, x.land(1, 1));
    }

    private static void moodsOfAllLands() {
        sentence("A WEEK: MOOD of each LAND is 1 nearer to 0");
        for (int land = 1; land <= 5; land++) {
            LendHouse x = new LendHouse();
            act(x, 0, "lend");
            x.order(0, 5);
            x.ask(land, 0, 5, 0);
            x.weeks(1);
            x.allot(0);
            x.label(1, 3);
            x.ship(5, 0);
            x.load(0, 1, 5);
            x.sail(0, land);
            x.need(land, 7, 3);
            x.weeks(2);
            for (int week = 0; week < 4; week++) {
                for (int other = 1; other <= 5; other++) {
                    due("MOOD of " + other, other == land ? Math.min(0, week - 2) : 0, x.land(other, 1));
                    due("HUNGER of " + other, other == land ? 3 * (week + 2) : 0, x.land(other, 0));
                }
                x.weeks(1);
            }
        }
    }

    private static void weeks() {
        sentence("23: so many WEEKS, as far as WEEK may go; 0 to 60");
        LendHouse x = new LendHouse();
        due("none", 0, x.weeks(0));
        due("one", 1, x.weeks(1));
        due("sixty", 61, x.weeks(60));
        due("59", 120, x.weeks(59));
        for (int i = 3; i <= 8; i++) {
            due("sixty", 60 * i, x.weeks(60));
        }
        due("19", 499, x.weeks(19));
        due("two of which one is left", 500, x.weeks(2));
        due("none is left", 500, x.weeks(1));
        due("none is left", 500, x.weeks(60));
        due("none", 500, x.weeks(0));
        yes("the two that were one", x.undo());
        due("week", 499, x.count(0));
        due("just so many", 500, x.weeks(1));
        sentence("23: behind THE END nothing but the WEEK goes on");
        LendHouse y = lent(20, "lend");
        y.label(1, 9);
        y.ship(100, 0);
        y.ship(100, 63);
        y.way(1, 1);
        y.load(0, 1, 10);
        y.load(1, 1, 5);
        y.sail(0, 1);
        y.weeks(1);
        y.sail(1, 1);
        y.rock(1, 2, 5, 7);
        y.need(1, 0, 1);
        y.need(1, 1, 1);
        y.order(2, 3);
        y.over();
        y.risk(1, 3, 100);
        due("weeks", 4, y.weeks(2));
        due("nothing is made", 3, y.lot(2, 10));
        due("nothing sails, nothing is lost", 1, y.led(1, 0));
        due("weeks left", 1, y.led(1, 2));
        due("nothing is used", 0, y.count(16));
        due("no hunger", 0, y.land(1, 0));
        due("MOOD", -8, y.land(1, 1));
        due("no YIELD", -5, y.net(0));
        due("brought", 0, y.count(10));
        due("on to the last", 64, y.weeks(60));
    }

    private static void orderOfAWeek() {
        sentence("A WEEK: WEEK is one more; then (a) to (e)");
        LendHouse x = lent(10, "lend");
        x.ship(10, 0);
        x.way(1, 1);
        x.load(0, 1, 10);
        x.sail(0, 1);
        x.need(1, 0, 4);
        x.weeks(1);
        due("what lands is used in the same WEEK", 4, x.lot(1, 14));
        due("no hunger", 0, x.land(1, 0));
        LendHouse y = offended(1, 4);
        due("what offends in this WEEK is felt in this WEEK", 2, y.lot(1, 14));
    }

    private static void hulls() {
        sentence("HULLS: the HOLDS that go to each LAND are not less than told tons (0 to 100000; 0 at first)");
        LendHouse x = new LendHouse();
        due("no SHIPS, no tons", 0, x.hulls(NONE));
        due("no SHIP", NONE, x.hulls(0));
        x.tons(1, 1);
        due("no SHIPS, one ton", NONE, x.hulls(NONE));
        x.ship(10, 0);
        x.risk(1, 1, 3);
        for (int tons = 0; tons <= 11; tons++) {
            x.tons(1, tons);
            due("least lost for " + tons, tons == 0 ? 0 : tons == 11 ? NONE : 30, x.hulls(NONE));
            due("the SHIP for " + tons, tons == 0 ? 0 : tons == 11 ? NONE : 1, x.hulls(0));
        }
        x.tons(1, 100000);
        due("the greatest tons", NONE, x.hulls(NONE));
        x.tons(1, 0);
        x.tons(5, 10);
        due("the last LAND", 5, x.hulls(0));
        due("no such SHIP", NONE, x.hulls(1));
        due("no such SHIP", NONE, x.hulls(-2));
        due("no such SHIP", NONE, x.hulls(MIN));
        due("no such SHIP", NONE, x.hulls(MAX));
        sentence("HULLS: the SHIPS at home (the first 6)");
        LendHouse y = new LendHouse();
        for (int ship = 0; ship < 8; ship++) {
            y.ship(5000, 0);
        }
        y.tons(5, 30000);
        due("six are enough", 0, y.hulls(NONE));
        due("the sixth", 5, y.hulls(5));
        due("the seventh", NONE, y.hulls(6));
        y.tons(5, 30001);
        due("six are not enough", NONE, y.hulls(NONE));
        y.tons(5, 30000);
        y.risk(5, 1, 100);
        due("the greatest loss", 3000000, y.hulls(NONE));
        y.sail(2, 1);
        due("one at sea is none of those", NONE, y.hulls(2));
        due("the seventh is the sixth now", 5, y.hulls(6));
        due("the eighth", NONE, y.hulls(7));
        due("least lost", 3000000, y.hulls(NONE));
        LendHouse w = lent(9, "lend");
        for (int ship = 0; ship < 5; ship++) {
            w.ship(10, 63);
        }
        w.way(1, 1);
        w.load(0, 1, 5);
        w.sail(1, 1);
        w.sail(2, 2);
        w.sail(3, 3);
        w.risk(3, 2, 100);
        w.weeks(1);
        w.tons(4, 20);
        due("in a LAND's port, at sea and lost are none of those", 0, w.hulls(NONE));
        int[] goals = {4, NONE, NONE, NONE, 4};
        for (int ship = 0; ship < 5; ship++) {
            due("SHIP " + ship, goals[ship], w.hulls(ship));
        }
        w.tons(4, 21);
        due("not enough at home", NONE, w.hulls(NONE));
        w.tons(4, 0);
        due("nothing is told", 0, w.hulls(0));
        w.tons(1, 10);
        w.risk(1, 3, 5);
        due("the RISK of the next WEEK", 50, w.hulls(NONE));
        w.weeks(1);
        due("the RISK stays", 50, w.hulls(NONE));
        w.over();
        due("behind THE END", 50, w.hulls(NONE));
        sentence("HULLS: WHICH: of several that in which the first SHIP goes to the least LAND (0: none)");
        LendHouse z = new LendHouse();
        z.ship(10, 0);
        z.ship(10, 0);
        z.ship(10, 0);
        z.tons(3, 10);
        due("the last one is enough", 0, z.hulls(0));
        due("the last one is enough", 0, z.hulls(1));
        due("the last one is enough", 3, z.hulls(2));
        z.tons(2, 10);
        due("2 and 3", 0, z.hulls(0));
        due("2 and 3", 2, z.hulls(1));
        due("2 and 3", 3, z.hulls(2));
        z.tons(1, 10);
        due("1, 2 and 3", 1, z.hulls(0));
        due("1, 2 and 3", 2, z.hulls(1));
        due("1, 2 and 3", 3, z.hulls(2));
        z.tons(4, 1);
        due("too many LANDS", NONE, z.hulls(0));
    }

    public static void main(String[] args) {
        ships();
        ways();
        losses();
        lossesOfCrates();
        risksTold();
        loads();
        eightLots();
        allEightLand();
        whereLoaded();
        needs();
        moods();
        leastMood();
        moodsOfAllLands();
        weeks();
        orderOfAWeek();
        hulls();
        finish();
    }
}
