/** The edges of promises 26, 28 to 34, 44 and 45: RETURNS, what must be there, what is SEEN, BASES, THE END. */
public final class TellingEdgesTest extends Checks {
    private static void returns() {
        sentence("RETURNS: at most 100; 28: how many there are");
        LendHouse x = new LendHouse();
        for (int row = 1; row <= 100; row++) {
            due("returned", row, x.returned(1 + row % 5, row % 8, 0, row));
        }
        due("the 101st", NONE, x.returned(1, 0, 0, 5));
        due("the 102nd", NONE, x.returned(1, 0, 0, 5));
        due("the latest row is the 100th", 100, x.tear(5, 0));
        due("the oldest of six is the 95th", 95, x.tear(0, 0));
        sentence("28: crates 0 to 100000, at WEEK 0 to this one");
        LendHouse y = landed(10, "lend");
        due("the least crates", 1, y.returned(1, 0, 2, 0));
        due("all are missing", 10, y.land(1, 6));
        due("the greatest crates", 2, y.returned(1, 0, 2, 100000));
        due("none is missing", 0, y.land(1, 6));
        due("the greatest crates", 100000, y.tear(1, 0));
        due("WEEK 0", 3, y.returned(5, 7, 0, 0));
        due("LAND 1, SORT 0 are taken, too", 4, y.returned(1, 0, 0, 1));
    }

    private static void mustBe() {
        sentence("MUST BE: landed there at the end of that WEEK by the books (as now, for this one)");
        LendHouse x = landed(20, "lend");
        x.need(1, 0, 3);
        due("WEEK 0", 0, x.mustBe(1, 0, 0));
        due("WEEK 1, ahead of the landing", 0, x.mustBe(1, 0, 1));
        due("this WEEK", 20, x.mustBe(1, 0, 2));
        x.give(1, 4, 5, true);
        due("this WEEK, as now", 16, x.mustBe(1, 0, 2));
        due("given on to it", 4, x.mustBe(5, 0, 2));
        x.weeks(1);
        due("WEEK 2, at its end", 16, x.mustBe(1, 0, 2));
        due("this WEEK", 13, x.mustBe(1, 0, 3));
        x.back(1, 0, 9);
        due("BACK goods are not lent", 13, x.mustBe(1, 0, 3));
        due("another SORT", 0, x.mustBe(1, 7, 3));
        due("another LAND", 0, x.mustBe(2, 0, 3));
        x.over();
        due("left behind THE END", 0, x.mustBe(1, 0, 3));
        due("but not the WEEK ahead of it", 16, x.mustBe(1, 0, 2));
        x.weeks(2);
        due("THE END's WEEK, at its end", 0, x.mustBe(1, 0, 3));
        due("this WEEK", 0, x.mustBe(1, 0, 5));
        due("the WEEK ahead of THE END still", 16, x.mustBe(1, 0, 2));
        sentence("MUST BE: WEEK 0 to 500");
        LendHouse y = landed(600, "lend");
        y.need(1, 0, 1);
        for (int i = 0; i < 9; i++) {
            y.weeks(60);
        }
        for (int week : new int[] {2, 3, 15, 16, 17, 31, 32, 33, 63, 64, 127, 128, 255, 256, 257, 499, 500}) {
            due("must be at WEEK " + week, 602 - week, y.mustBe(1, 0, week));
        }
        due("must be at WEEK 0", 0, y.mustBe(1, 0, 0));
        due("must be at WEEK 1", 0, y.mustBe(1, 0, 1));
        due("a RETURN at WEEK 500", 1, y.returned(1, 0, 500, 100));
        due("missing", 2, y.land(1, 6));
        due("a RETURN at WEEK 2 is not the latest", 2, y.returned(1, 0, 2, 0));
        due("missing", 2, y.land(1, 6));
    }

    private static void missing() {
        sentence("MISSING: SURE: of each SORT what the latest RETURN (by its WEEK, then as it came) lacks to MUST BE");
        LendHouse x = landed(10, "lend");
        due("without a RETURN", 0, x.land(1, 6));
        due("may be", 10, x.land(1, 7));
        for (int crates = 9; crates <= 11; crates++) {
            x.returned(1, 0, 2, crates);
            due("a RETURN of " + crates + " of 10", Math.max(0, 10 - crates), x.land(1, 6));
            due("may be", Math.max(0, 10 - crates), x.land(1, 7));
        }
        x.returned(1, 0, 1, 0);
        due("of an older WEEK: not the latest", 0, x.land(1, 6));
        x.returned(1, 0, 2, 8);
        x.returned(1, 0, 1, 100000);
        due("of an older WEEK, with more crates: not the latest", 2, x.land(1, 6));
        x.returned(1, 0, 2, 4);
        due("of the same WEEK: the one that came last", 6, x.land(1, 6));
        x.returned(2, 0, 2, 0);
        due("of another LAND", 6, x.land(1, 6));
        x.returned(1, 1, 2, 0);
        due("of a SORT that is not there", 6, x.land(1, 6));
        x.need(1, 0, 5);
        x.weeks(1);
        due("to MUST BE at its WEEK", 6, x.land(1, 6));
        x.returned(1, 0, 3, 4);
        due("a later WEEK", 1, x.land(1, 6));
        due("other LANDS", 0, x.land(2, 6) + x.land(3, 6) + x.land(2, 7));
        sentence("MISSING: MAY BE: that, and all that is landed there now of SORTS without a RETURN");
        LendHouse y = twoSorts();
        due("both", 50, y.land(1, 7));
        y.returned(1, 0, 2, 15);
        due("sure", 5, y.land(1, 6));
        due("may be", 5 + 30, y.land(1, 7));
        y.give(4, 12, 2, true);
        due("now", 5 + 18, y.land(1, 7));
        due("in the other LAND", 12, y.land(2, 7));
        y.returned(1, 1, 0, 0);
        due("a RETURN of any WEEK is one", 5, y.land(1, 7));
        y.returned(1, 1, 2, 0);
        due("both together", 5 + 18, y.land(1, 6));
        due("may be no more", 5 + 18, y.land(1, 7));
        y.over();
        due("behind THE END nothing must be there now", 0, y.land(1, 6));
        due("nor in the other LAND", 0, y.land(2, 7));
    }

    /** LAND 1 with 20 crates of SORT 0 (LOT 1) and 30 of SORT 1 (LOT 4) at WEEK 2. */
    private static LendHouse twoSorts() {
        LendHouse x = new LendHouse();
        act(x, 0, "lend");
        x.order(0, 20);
        x.order(1, 30);
        x.order(2, 1);
        x.ask(1, 0, 20, 0);
        x.ask(1, 1, 30, 0);
        x.weeks(1);
        x.allot(0);
        x.allot(1);
        x.ship(100, 0);
        x.way(1, 1);
        x.load(0, 3, 20);
        x.load(0, 4, 30);
        x.sail(0, 1);
        x.weeks(1);
        return x;
    }

    private static void eachLandAndSort() {
        sentence("LANDS 1 to 5, SORTS 0 to 7: each by itself");
        for (int land = 1; land <= 5; land++) {
            for (int sort = 0; sort <= 7; sort++) {
                LendHouse x = landedOf(land, sort, 10, "lend;mark 1 if had>9");
                String here = " in LAND " + land + " of SORT " + sort;
                x.ask(land, sort, 1, 0);
                due("had" + here, 1, x.weigh(1, 0));
                x.need(land, sort, 4);
                due("may be" + here, 10, x.land(land, 7));
                x.returned(land, sort, 2, 3);
                x.returned(land, 7 - sort, 2, 0);
                x.returned(land % 5 + 1, sort, 2, 0);
                x.seen(land, sort, 11);
                x.seen(land, 7 - sort, 30);
                x.seen(land % 5 + 1, sort, 30);
                due("unexplained" + here, 1, x.whence(land, sort, false));
                due("landed by SHIPS" + here, 1 << land, x.whence(1, sort, true));
                due("another SORT" + here, 0, x.whence(1, 7 - sort, true));
                x.weeks(1);
                due("used" + here, 4, x.lot(1, 14));
                due("must be now" + here, 6, x.mustBe(land, sort, 3));
                for (int other = 1; other <= 5; other++) {
                    due("sure of " + other + here, other == land ? 7 : 0, x.land(other, 6));
                    due("may be of " + other + here, other == land ? 7 : 0, x.land(other, 7));
                    due("balance of " + other + here, other == land ? 10 : 0, x.balance(other, 2, 0));
                    due("hunger of " + other + here, 0, x.land(other, 0));
                    for (int goods = 0; goods <= 7; goods++) {
                        due("must be" + here, other == land && goods == sort ? 10 : 0, x.mustBe(other, goods, 2));
                    }
                }
            }
        }
    }

    private static void torn() {
        sentence("44: what a RETURN of the latest 6 (from 0, the oldest, on) told is TORN: what it is then");
        for (int rows = 1; rows <= 8; rows++) {
            LendHouse x = new LendHouse();
            for (int row = 0; row < rows; row++) {
                x.returned(1, 0, 0, 100 + row);
            }
            int first = Math.max(0, rows - 6);
            for (int i = 0; i < Math.min(6, rows); i++) {
                due("row " + i + " of " + rows, 100 + first + i, x.tear(i, 0));
            }
            due("the last one torn", (100 + rows - 1) ^ 5, x.tear(Math.min(6, rows) - 1, 5));
            due("check", Math.min(6, rows) - 1, x.check());
            due("the first one torn", (100 + first) ^ (rows == 1 ? 5 ^ 8 : 8), x.tear(0, 8));
            due("check", 0, x.check());
        }
        sentence("44: exclusive or with a mask");
        LendHouse y = landed(10, "lend");
        y.returned(1, 0, 2, 10);
        due("with 0", 10, y.tear(0, 0));
        due("with all bits", -11, y.tear(0, -1));
        due("missing", 21, y.land(1, 6));
        due("with all bits again", 10, y.tear(0, -1));
        due("with the highest bit", MIN + 10, y.tear(0, MIN));
        due("missing", 2147483648L, y.land(1, 6));
        due("check", 0, y.check());
        due("with the greatest int", -11, y.tear(0, MAX));
        due("back", 10, y.tear(0, -1));
        due("check", NONE, y.check());
        due("with what it is", 0, y.tear(0, 10));
        due("missing (what stands in RETURNS counts, TORN or not)", 10, y.land(1, 6));
        sentence("SURE: of several SORTS together, more than an int has");
        LendHouse z = landed(10, "lend");
        for (int sort = 0; sort < 6; sort++) {
            z.returned(1, sort, 2, 0);
            due("tear", MIN, z.tear(sort, MIN));
        }
        due("six of them", 6 * 2147483648L + 10, z.land(1, 6));
        due("may be", 6 * 2147483648L + 10, z.land(1, 7));
    }

    private static void check() {
        sentence("CHECK: the first (from the oldest on) that is not as told; none");
        LendHouse x = new LendHouse();
        due("no RETURNS", NONE, x.check());
        for (int row = 0; row < 6; row++) {
            x.returned(1, 0, 0, row);
            due("as told", NONE, x.check());
        }
        for (int row = 5; row >= 0; row--) {
            x.tear(row, 1);
            due("the first", row, x.check());
        }
        for (int row = 0; row < 6; row++) {
            x.tear(row, 1);
            due("the next one", row == 5 ? NONE : row + 1, x.check());
        }
        x.tear(3, 2);
        for (int row = 2; row >= 0; row--) {
            x.returned(1, 0, 0, 9);
            due("it is nearer to the oldest", row, x.check());
        }
    }

    private static void seen() {
        sentence("SEEN: at most 60; 30: how many tellings there are; NONE likewise, if there are 60");
        LendHouse x = new LendHouse();
        for (int i = 1; i <= 60; i++) {
            due("seen", i, x.seen(1 + i % 5, i % 8, i));
        }
        due("the 61st", NONE, x.seen(1, 7, 100000));
        due("the 62nd", NONE, x.seen(5, 7, 100000));
        due("it was not told", 55, x.whence(1, 7, false));
        sentence("30: crates 1 to 100000");
        LendHouse y = new LendHouse();
        due("the least", 1, y.seen(1, 0, 1));
        due("the greatest", 2, y.seen(5, 7, 100000));
        due("unexplained", 1, y.whence(1, 0, false));
        due("unexplained", 100000, y.whence(5, 7, false));
        sentence("UNEXPLAINED: the greatest number SEEN, less all crates that ever landed or were given on, 0 at least");
        LendHouse z = landed(10, "lend");
        due("nothing SEEN", 0, z.whence(1, 0, false));
        for (int crates = 9; crates <= 11; crates++) {
            z.seen(1, 0, crates);
            due("SEEN " + crates + " of 10", crates == 11 ? 1 : 0, z.whence(1, 0, false));
        }
        z.seen(1, 0, 5);
        due("the greatest number counts", 1, z.whence(1, 0, false));
        z.give(1, 3, 2, true);
        z.seen(2, 0, 4);
        due("3 were given on there", 1, z.whence(2, 0, false));
        due("10 landed once", 1, z.whence(1, 0, false));
        z.seen(3, 0, 4);
        due("none landed there", 4, z.whence(3, 0, false));
        z.seen(1, 1, 4);
        due("none of that SORT", 4, z.whence(1, 1, false));
        z.seen(5, 7, 50);
        for (int land = 1; land <= 5; land++) {
            due("SEEN in another LAND", land == 5 ? 50 : 0, z.whence(land, 7, false));
        }
        due("SEEN of another SORT", 0, z.whence(5, 6, false));
        z.over();
        due("behind THE END", 1, z.whence(1, 0, false));
    }

    private static void from() {
        sentence("FROM: the LANDS in which such goods were ever landed by SHIPS (LAND n: bit n)");
        LendHouse x = new LendHouse();
        act(x, 0, "lend");
        x.order(0, 50);
        for (int land = 1; land <= 5; land++) {
            x.ask(land, 0, 2, land);
            x.ship(9, 0);
            x.way(land, land);
        }
        x.weeks(1);
        x.allot(0);
        for (int land = 1; land <= 5; land++) {
            x.load(land - 1, land, 1);
            x.sail(land - 1, land);
        }
        int[] bits = {0, 2, 6, 14, 30, 62};
        for (int week = 0; week <= 5; week++) {
            due("behind " + week + " WEEKS", bits[week], x.whence(1, 0, true));
            due("whatever the LAND", bits[week], x.whence(5, 0, true));
            due("another SORT", 0, x.whence(1, 7, true));
            x.weeks(1);
        }
        LendHouse y = landed(5, "lend");
        y.give(1, 2, 4, true);
        y.back(3, 0, 5);
        y.seen(2, 0, 5);
        due("given on, BACK and SEEN are not landed by SHIPS", 2, y.whence(2, 0, true));
        y.need(1, 0, 9);
        y.weeks(1);
        due("ever", 2, y.whence(2, 0, true));
    }

    private static void bases() {
        sentence("BASES: at most 10, numbered from 0 on; for 1 to 500 WEEKS, a COST 0 to 10000, a YIELD 0 to 1000");
        LendHouse x = new LendHouse();
        for (int base = 0; base < 10; base++) {
            due("rock", base, x.rock(1 + base % 5, 1 + base, base, base));
            due("bases", base + 1, x.count(9));
        }
        due("net of the last", -9, x.net(9));
        due("net of the first", 0, x.net(0));
        LendHouse y = new LendHouse();
        due("the least of all", 0, y.rock(1, 1, 0, 0));
        due("the greatest of all", 1, y.rock(5, 500, 10000, 1000));
        due("net", 0, y.net(0));
        due("net", -10000, y.net(1));
        due("leased", 1, y.land(1, 5));
        due("leased", 1, y.land(5, 5));
        for (int i = 0; i < 8; i++) {
            y.weeks(60);
        }
        y.weeks(19);
        due("leased in WEEK 499, the last of 500", 1, y.land(5, 5));
        due("net", 489000, y.net(1));
        y.weeks(1);
        due("leased in WEEK 500", 0, y.land(5, 5));
        due("net", 490000, y.net(1));
        due("what BASES brought", 500000, y.count(10));
        due("net of the least", 0, y.net(0));
        sentence("BASES: leased in as many WEEKS, this one first; the YIELD in as many, the next one first");
        for (int weeks = 1; weeks <= 3; weeks++) {
            LendHouse z = new LendHouse();
            z.weeks(4);
            z.rock(2, weeks, 5, 7);
            for (int week = 0; week <= 4; week++) {
                due("leased for " + weeks + ", behind " + week, week < weeks ? 1 : 0, z.land(2, 5));
                due("net for " + weeks + ", behind " + week, 7 * Math.min(week, weeks) - 5, z.net(0));
                due("brought for " + weeks + ", behind " + week, 7 * Math.min(week, weeks), z.count(10));
                due("another LAND", 0, z.land(1, 5));
                z.weeks(1);
            }
        }
        sentence("BASES: a lease that begins in the last WEEK");
        LendHouse last = new LendHouse();
        for (int i = 0; i < 9; i++) {
            last.weeks(60);
        }
        due("rock", 0, last.rock(1, 500, 1, 1000));
        due("leased", 1, last.land(1, 5));
        last.weeks(60);
        due("no WEEK comes", -1, last.net(0));
    }

    private static void lands() {
        sentence("26: crates landed there now (LENT or given on), lost on the way to it, BASES leased now");
        LendHouse x = landed(10, "lend");
        x.back(1, 0, 7);
        due("landed, but for BACK", 10, x.land(1, 3));
        x.give(1, 4, 2, true);
        due("landed", 6, x.land(1, 3));
        due("given on", 4, x.land(2, 3));
        x.need(1, 0, 2);
        x.weeks(1);
        due("used", 4, x.land(1, 3));
        due("nothing lost", 0, x.land(1, 4));
        x.rock(1, 2, 0, 0);
        x.rock(1, 1, 0, 0);
        due("leased", 2, x.land(1, 5));
        x.over();
        due("landed behind THE END", 0, x.land(1, 3));
        due("leased behind THE END", 2, x.land(1, 5));
        x.weeks(1);
        due("a lease goes on", 1, x.land(1, 5));
    }

    private static void theEnd() {
        sentence("34: THE END: how many crates are left; NONE if it was");
        LendHouse x = new LendHouse();
        due("none is left", 0, x.over());
        due("it was", NONE, x.over());
        x.weeks(1);
        due("it was", NONE, x.over());
        due("count", 1, x.count(11));
        LendHouse y = landed(10, "lend");
        y.ship(100, 0);
        y.order(0, 5);
        y.weeks(1);
        y.ask(1, 0, 2, 0);
        y.allot(0);
        y.order(0, 7);
        y.load(1, 4, 1);
        y.give(1, 3, 2, true);
        y.back(3, 0, 6);
        y.need(1, 0, 2);
        y.weeks(1);
        int landed = y.count(15);
        due("landed: 5 of 10, 3 given on, 6 BACK", 14, landed);
        due("all of them are left", 14, y.over());
        int[] places = {0, 12, 0, 0, 2, 3, 0, 0, 14};
        for (int place = 0; place <= 8; place++) {
            due("PLACE " + place, places[place], y.count(12 + place));
        }
    }

    public static void main(String[] args) {
        returns();
        mustBe();
        missing();
        eachLandAndSort();
        torn();
        check();
        seen();
        from();
        bases();
        lands();
        theEnd();
        finish();
    }
}
