/** The edges of promises 38 to 42: PAGES and CHOICES; and of count, promise 49. */
public final class PlanningEdgesTest extends Checks {
    private static void pages() {
        sentence("PAGES: at most 9, worth -10000 to 10000 each");
        LendHouse x = new LendHouse();
        for (int page = 0; page < 9; page++) {
            due("page", page, x.page(page == 0 ? 10000 : 1, page == 8 ? -10000 : 1));
        }
        due("the tenth", NONE, x.page(10000, 10000));
        due("all nine", 511, x.signed(10008, -9992));
        due("one more for the maker", NONE, x.signed(10009, -10000));
        due("one more for the other", 255, x.signed(0, -9991));
        LendHouse y = new LendHouse();
        due("the least", 0, y.page(-10000, -10000));
        due("the greatest", 1, y.page(10000, 10000));
        due("the greatest alone", 2, y.signed(10000, 10000));
        due("one more", NONE, y.signed(10001, 10000));
        due("one more", NONE, y.signed(10000, 10001));
        sentence("SIGNED: each has not less than told numbers; none");
        LendHouse z = new LendHouse();
        due("no PAGES: the empty set", 0, z.signed(0, 0));
        due("no PAGES", 0, z.signed(-1, -1));
        due("no PAGES", 0, z.signed(MIN, MIN));
        due("no PAGES: one for the maker", NONE, z.signed(1, 0));
        due("no PAGES: one for the other", NONE, z.signed(0, 1));
        due("no PAGES: the greatest int", NONE, z.signed(MAX, MAX));
        z.page(5, -3);
        for (int least = 4; least <= 6; least++) {
            due("not less than " + least, least <= 5 ? 1 : NONE, z.signed(least, -3));
        }
        due("the other has not less than -2", 0, z.signed(0, -2));
        due("the other has not less than -3", 1, z.signed(0, -3));
        due("the other has not less than -4", 1, z.signed(0, -4));
        due("no set", NONE, z.signed(1, -2));
        due("the least ints", 1, z.signed(MIN, MIN));
        due("the greatest int", NONE, z.signed(MIN, MAX));
        due("the greatest int", NONE, z.signed(MAX, MIN));
    }

    private static void signed() {
        sentence("SIGNED: that which the maker has the most of");
        LendHouse x = new LendHouse();
        x.page(1, 9);
        x.page(2, 0);
        x.page(-1, 9);
        due("1 and 2", 3, x.signed(0, 0));
        due("-1, too, if the other must have 18", 7, x.signed(0, 18));
        due("-1 and 1 is not above 0", NONE, x.signed(3, 18));
        sentence("SIGNED: of several that which the other has the most of");
        LendHouse y = new LendHouse();
        y.page(3, 1);
        y.page(3, 2);
        y.page(-3, 0);
        due("both", 3, y.signed(0, 0));
        LendHouse z = new LendHouse();
        z.page(0, -1);
        z.page(0, 0);
        z.page(0, 1);
        due("the third alone", 4, z.signed(0, -9));
        sentence("SIGNED: then the least bits");
        LendHouse w = new LendHouse();
        w.page(0, 0);
        w.page(0, 0);
        due("none of them", 0, w.signed(0, 0));
        w.page(4, -4);
        w.page(4, -4);
        due("the first of two", 4, w.signed(4, -4));
        due("both", 12, w.signed(4, -8));
    }

    /** ROWS that are all alike. */
    private static void rows(LendHouse x, int steel, int goods, int food) {
        for (int row = 0; row < 3; row++) {
            for (int year = 0; year < 5; year++) {
                x.row(row, year, steel, goods, food);
            }
        }
    }

    private static void choices() {
        sentence("CHOICES: at most 8; 40: how many there are");
        LendHouse x = new LendHouse();
        for (int choice = 1; choice <= 8; choice++) {
            due("choice", choice, x.choice(0, 0, 10, 0));
        }
        due("the ninth", NONE, x.choice(0, 0, 10000, 0));
        rows(x, 0, 80, 0);
        due("all eight", 255, x.lasts());
        rows(x, 0, 81, 0);
        due("one more", NONE, x.lasts());
        rows(x, 0, 70, 0);
        due("seven", 127, x.lasts());
        sentence("CHOICES: steel 0 to 10000, YEAR 0 to 4, goods, food 0 to 10000");
        LendHouse y = new LendHouse();
        due("the least of all", 1, y.choice(0, 0, 0, 0));
        due("the greatest of all", 2, y.choice(10000, 4, 10000, 10000));
        y.row(2, 4, 10000, 10000, 10000);
        due("no steel in the other ROWS", NONE, y.lasts());
        y.row(1, 4, 10000, 0, 0);
        y.row(0, 4, 9999, 0, 0);
        due("one too little in one ROW", NONE, y.lasts());
        y.row(0, 4, 10000, 0, 0);
        due("the second", 2, y.lasts());
        y.row(0, 4, 10000, 10001, 0);
        due("one too much", NONE, y.lasts());
        sentence("41: steel, need of goods, need of food 0 to 100000 each; 0 at first");
        LendHouse z = new LendHouse();
        z.choice(1, 0, 100, 100);
        due("nothing is needed", 0, z.lasts());
        z.row(0, 0, 0, 1, 0);
        due("steel 0 at first", NONE, z.lasts());
        rows(z, 1, 0, 0);
        due("nothing is needed", 0, z.lasts());
        z.row(2, 4, 100000, 100, 0);
        due("the greatest steel", 1, z.lasts());
        z.row(2, 4, 100000, 100000, 0);
        due("the greatest need of goods", NONE, z.lasts());
        z.row(2, 4, 100000, 0, 100000);
        due("the greatest need of food", NONE, z.lasts());
        z.row(2, 4, 0, 0, 0);
        due("nothing is needed again", 0, z.lasts());
    }

    private static void lasts() {
        sentence("a set LASTS, if in each YEAR of each ROW its cost is not above steel");
        for (int row = 0; row < 3; row++) {
            for (int year = 0; year < 5; year++) {
                LendHouse x = new LendHouse();
                x.choice(5, 0, 3, 4);
                rows(x, 5, 3, 4);
                due("just enough of all", 1, x.lasts());
                x.row(row, year, 4, 3, 4);
                due("one steel too little in ROW " + row + ", YEAR " + year, NONE, x.lasts());
                x.row(row, year, 5, 4, 4);
                due("one good too little", NONE, x.lasts());
                x.row(row, year, 5, 3, 5);
                due("one food too little", NONE, x.lasts());
                x.row(row, year, 6, 2, 3);
                due("more than enough", 1, x.lasts());
            }
        }
        sentence("CHOICES: from a YEAR on, each YEAR from then on");
        for (int from = 0; from <= 4; from++) {
            for (int year = 0; year <= 4; year++) {
                LendHouse x = new LendHouse();
                x.choice(0, from, 1, 0);
                x.row(1, year, 0, 1, 0);
                due("from " + from + ", needed in " + year, year >= from ? 1 : NONE, x.lasts());
                LendHouse y = new LendHouse();
                y.choice(1, from, 1, 0);
                rows(y, 1, 0, 0);
                y.row(1, 4, 1, 1, 0);
                y.row(2, year, 0, 0, 0);
                due("from " + from + ", no steel in " + year, year >= from ? NONE : 1, y.lasts());
            }
        }
        sentence("BEST: the least cost (of all 5 YEARS together)");
        LendHouse z = new LendHouse();
        z.choice(4, 0, 1, 0);
        z.choice(10, 3, 1, 0);
        z.choice(19, 4, 1, 0);
        rows(z, 100, 0, 0);
        z.row(0, 4, 100, 1, 0);
        due("20, 20 and 19", 4, z.lasts());
        z.row(0, 3, 100, 1, 0);
        due("20 and 20: the least bits", 1, z.lasts());
        sentence("BEST: then the fewest, then the least bits; none");
        LendHouse w = new LendHouse();
        due("no CHOICES, no needs", 0, w.lasts());
        w.choice(0, 0, 1, 0);
        w.choice(0, 0, 1, 0);
        w.choice(0, 0, 2, 0);
        w.choice(0, 0, 2, 0);
        w.row(0, 0, 0, 2, 0);
        due("one is fewer than two", 4, w.lasts());
        w.row(0, 0, 0, 4, 0);
        due("two are fewer than three", 12, w.lasts());
        w.row(0, 0, 0, 3, 0);
        due("the least bits of two", 5, w.lasts());
        w.row(0, 0, 0, 7, 0);
        due("none", NONE, w.lasts());
        LendHouse dear = new LendHouse();
        dear.choice(1, 4, 2, 0);
        dear.choice(0, 0, 1, 0);
        dear.choice(0, 0, 1, 0);
        rows(dear, 9, 0, 0);
        dear.row(0, 4, 9, 2, 0);
        due("two that cost nothing are better than a dear one", 6, dear.lasts());
    }

    private static void counts() {
        sentence("49: NONE for another what");
        LendHouse x = new LendHouse();
        busy(x);
        for (int what : new int[] {-1, -2, 21, 22, MIN, MAX}) {
            due("count(" + what + ")", NONE, x.count(what));
        }
        sentence("49: the least and the greatest what");
        due("WEEK", 4, x.count(0));
        x.over();
        due("crates that are left", 25, x.count(20));
        sentence("49: SHIPS, the lost ones, too");
        due("SHIPS", 6, x.count(6));
        due("SHIPS lost", 1, x.count(7));
        sentence("49: LINES of this WEEK, of an ACT without LINES");
        LendHouse y = new LendHouse();
        act(y, 0, "lend");
        due("one", 1, y.count(4));
        act(y, 0, "");
        due("none", 0, y.count(4));
        due("ACTS", 2, y.count(3));
        sentence("49: crates in PLACE 0 to 8");
        LendHouse z = new LendHouse();
        for (int i = 0; i < 100; i++) {
            z.order(0, 1000);
        }
        due("at work", 100000, z.count(12));
        z.weeks(1);
        due("at work", 0, z.count(12));
        due("in the port", 100000, z.count(13));
    }

    private static void manyCalls() {
        sentence("an object is used for at most 512 calls: the 512th is answered still");
        LendHouse x = new LendHouse();
        for (int i = 0; i < 100; i++) {
            x.order(0, 1000);
            x.price(0, i, i);
            x.feed(0x20202020, 0x20202020, 0x20202020, 0x20202020, 0x20202020);
            x.keep();
            x.weeks(1);
        }
        for (int i = 500; i < 511; i++) {
            due("week", 100, x.count(0));
        }
        due("the 512th call", 100000, x.count(13));
        LendHouse y = new LendHouse();
        for (int i = 0; i < 170; i++) {
            y.feed(0x6c656e64, 0x3b6c656e, 0x643b6c65, 0x6e643b6d, 0x61726b20);
            y.end(14);
            readOrRefuse(y, i);
        }
        due("lines", 3, y.count(4));
        due("the 512th call", 10, y.count(3));
    }

    private static void readOrRefuse(LendHouse x, int acts) {
        try {
            due("act", 3, x.act(0));
            due("it is one of ten", 1, bit(acts < 10));
        } catch (UnsupportedOperationException e) {
            due("it is none of ten", 0, bit(acts < 10));
        }
    }

    public static void main(String[] args) {
        pages();
        signed();
        choices();
        lasts();
        counts();
        manyCalls();
        finish();
    }
}
