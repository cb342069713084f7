/** The edges of promises 46 to 48: UNDO and THE IMAGE. */
public final class UndoEdgesTest extends Checks {
    private static final Step BUSY = Checks::busy;
    /** A busy house in which nothing is to be undone. */
    private static final Step QUIET = x -> {
        busy(x);
        yes("undo ahead", x.undo());
    };

    /** Calls of all kinds that UNDO takes back with what was ahead of them, or that THE IMAGE does not have. */
    private static void changeAll(LendHouse x) {
        int week = x.count(0);
        x.sort(0, 7, 7, 7, 7);
        x.sort(7, 7, 7, 7, 7);
        x.price(0, week, 777);
        x.works(77, 0);
        x.order(3, 77);
        x.ask(4, 0, 77, 77);
        x.label(5, 7);
        x.ship(777, 77);
        for (int land = 1; land <= 5; land++) {
            x.way(land, 6);
            x.risk(land, week, 77);
            x.need(land, 0, 77);
            x.tons(land, 77);
        }
        x.back(2, 1, 77);
        x.returned(1, 0, week, 77);
        x.tear(2, 77);
        x.seen(3, 0, 777);
        x.rock(3, 77, 77, 77);
        x.page(77, 77);
        x.choice(7, 0, 77, 77);
        x.row(1, 3, 77, 7, 7);
        x.over();
    }

    private static void nothingToUndo() {
        sentence("46: false if there is nothing to be undone");
        LendHouse x = new LendHouse();
        no("a new object", x.undo());
        x.works(9, 9);
        x.order(0, 5);
        x.ask(1, 0, 5, 0);
        x.ship(5, 5);
        x.back(1, 0, 5);
        x.rock(1, 1, 1, 1);
        act(x, 0, "lend");
        x.returned(1, 0, 0, 0);
        x.tear(0, 1);
        x.seen(1, 0, 1);
        x.page(1, 1);
        x.choice(1, 1, 1, 1);
        x.keep();
        no("none of these is undone", x.undo());
        due("lots", 2, x.count(1));
        x.over();
        no("THE END is not undone", x.undo());
        due("the end", 1, x.count(11));
        x.again();
        no("again is not undone", x.undo());
        sentence("UNDO: allot, load, sail, give, weeks that answer 0, false, NONE or the same WEEK did nothing");
        LendHouse y = new LendHouse();
        y.order(0, 5);
        y.ship(5, 5);
        y.back(1, 0, 5);
        due("allot", 0, y.allot(0));
        no("undo of an allot that answered 0", y.undo());
        no("load", y.load(0, 0, 1));
        no("undo of a load that answered false", y.undo());
        no("sail", y.sail(0, 0));
        no("undo of a sail that answered false", y.undo());
        due("give", NONE, y.give(0, 1, 1, true));
        no("undo of a give that answered NONE", y.undo());
        due("weeks", 0, y.weeks(0));
        no("undo of no WEEKS", y.undo());
        for (int i = 0; i < 9; i++) {
            y.weeks(60);
        }
        yes("undo of the last WEEKS that were some", y.undo());
        due("week", 480, y.count(0));
        y.weeks(20);
        y.undo();
        y.weeks(60);
        due("week", 500, y.count(0));
        y.undo();
        y.weeks(20);
        y.undo();
        y.weeks(19);
        y.weeks(1);
        y.undo();
        due("week", 499, y.count(0));
        y.weeks(1);
        y.undo();
        no("once", y.undo());
        due("week", 499, y.count(0));
    }

    private static void lastOfFive() {
        sentence("UNDO: the last that did something is taken back, behind others that did nothing");
        LendHouse x = lent(20, "lend");
        x.ship(10, 0);
        x.way(1, 1);
        yes("load", x.load(0, 1, 10));
        no("load in vain", x.load(0, 1, 1));
        due("allot in vain", 0, x.allot(0));
        due("give in vain", NONE, x.give(1, 1, 2, false));
        no("sail in vain", x.sail(0, 2));
        due("weeks in vain", 1, x.weeks(0));
        yes("undo of the load", x.undo());
        due("in the port", 20, x.lot(1, 11));
        due("week", 1, x.count(0));
        due("lots", 2, x.count(1));
        no("not the allotment ahead of it", x.undo());
        sentence("UNDO: of two the later one alone");
        yes("load", x.load(0, 1, 4));
        yes("load", x.load(0, 1, 5));
        yes("undo", x.undo());
        due("the first load stays", 4, x.led(0, 3));
        yes("sail", x.sail(0, 1));
        due("weeks", 2, x.weeks(1));
        due("give", 2, x.give(1, 1, 2, true));
        yes("undo of give", x.undo());
        due("landed", 4, x.land(1, 3));
        due("none given on", 0, x.land(2, 3));
        due("week", 2, x.count(0));
        no("once", x.undo());
        due("weeks", 5, x.weeks(3));
        yes("undo of three WEEKS at once", x.undo());
        due("week", 2, x.count(0));
        sentence("UNDO: what was undone may be done again, and undone again");
        due("weeks", 3, x.weeks(1));
        yes("undo", x.undo());
        due("weeks", 4, x.weeks(2));
        yes("undo", x.undo());
        due("week", 2, x.count(0));
        due("must be", 4, x.mustBe(1, 0, 2));
    }

    private static void allIsAsItWas() {
        sentence("UNDO: all is as it was ahead of it");
        sameAsAhead(QUIET, "load and undo", x -> {
            yes("load", x.load(5, 5, 1));
            yes("undo", x.undo());
        });
        sameAsAhead(QUIET, "sail and undo", x -> {
            yes("sail", x.sail(5, 4));
            yes("undo", x.undo());
        });
        sameAsAhead(QUIET, "sail home and undo", x -> {
            yes("sail", x.sail(1, 0));
            yes("undo", x.undo());
        });
        sameAsAhead(QUIET, "give and undo", x -> {
            due("give", 13, x.give(3, 1, 2, false));
            yes("undo", x.undo());
        });
        sameAsAhead(QUIET, "give by force and undo", x -> {
            due("give", 13, x.give(3, 1, 3, true));
            yes("undo", x.undo());
        });
        sameAsAhead(QUIET, "a WEEK and undo", x -> {
            due("weeks", 5, x.weeks(1));
            yes("undo", x.undo());
        });
        sameAsAhead(QUIET, "60 WEEKS and undo", x -> {
            due("weeks", 64, x.weeks(60));
            yes("undo", x.undo());
        });
        Step asked = x -> {
            QUIET.on(x);
            x.ask(1, 0, 4, 0);
            x.ask(2, 0, 40, 0);
        };
        sameAsAhead(asked, "allot and undo", x -> {
            due("allot", 40, x.allot(0));
            yes("undo", x.undo());
        });
        sentence("UNDO: with all that came behind it");
        sameAsAhead(QUIET, "load, all else and undo", x -> {
            yes("load", x.load(5, 5, 1));
            changeAll(x);
            yes("undo", x.undo());
        });
        sameAsAhead(QUIET, "a WEEK, all else and undo", x -> {
            x.weeks(1);
            changeAll(x);
            yes("undo", x.undo());
        });
        sameAsAhead(asked, "allot, all else and undo", x -> {
            due("allot", 40, x.allot(0));
            changeAll(x);
            yes("undo", x.undo());
        });
    }

    private static void undoAndTheEnd() {
        sentence("UNDO: of what was ahead of THE END: THE END, too, is as it was");
        LendHouse x = landed(5, "lend");
        due("over", 5, x.over());
        due("over again", NONE, x.over());
        yes("undo of the WEEK ahead of it", x.undo());
        due("no end", 0, x.count(11));
        due("at sea", 1, x.led(0, 0));
        due("week", 1, x.count(0));
        due("no crate is landed", 0, x.over());
        due("the end", 1, x.count(11));
        sentence("UNDO: of WEEKS behind THE END");
        due("weeks", 3, x.weeks(2));
        yes("undo", x.undo());
        due("week", 1, x.count(0));
        due("THE END stays", 1, x.count(11));
        due("it was", NONE, x.over());
        no("once", x.undo());
        due("weeks to the last one", 500, toTheLast(x));
        due("none is left", 500, x.weeks(60));
        yes("undo of the last ones", x.undo());
        due("week", 481, x.count(0));
    }

    private static int toTheLast(LendHouse x) {
        for (int i = 0; i < 8; i++) {
            x.weeks(60);
        }
        return x.weeks(60);
    }

    private static void tapeStays() {
        sentence("UNDO: (the TAPE and fault() stay)");
        LendHouse x = new LendHouse();
        x.weeks(1);
        write(x, "lend;give");
        yes("undo", x.undo());
        yes("the TAPE stays", x.end(9));
        due("an ACT", 2, x.act(0));
        x.weeks(1);
        due("an ACT of the WEEK that is undone", 1, act(x, 1, "mark 1"));
        yes("undo", x.undo());
        due("the ACT is told no more", 1, x.count(3));
        no("the TAPE is used up still", x.end(1));
        sentence("THE IMAGE: (the TAPE and fault() stay; with THE IMAGE nothing is there to be undone)");
        x.keep();
        write(x, "give");
        x.weeks(1);
        yes("again", x.again());
        yes("the TAPE stays", x.end(4));
        no("nothing to undo", x.undo());
        due("week", 0, x.count(0));
    }

    private static void images() {
        sentence("48: false, and nothing happens, if none was kept");
        LendHouse x = new LendHouse();
        no("again", x.again());
        x.order(0, 5);
        no("again", x.again());
        due("lots", 1, x.count(1));
        sentence("THE IMAGE (one): of a new object, too");
        LendHouse y = new LendHouse();
        y.keep();
        busy(y);
        y.again();
        due("it is that of the busy house, which keeps one, too", 3, y.count(0));
        LendHouse z = new LendHouse();
        z.keep();
        z.order(0, 5);
        z.weeks(9);
        z.over();
        yes("again", z.again());
        for (int what = 0; what <= 20; what++) {
            due("count(" + what + ")", 0, z.count(what));
        }
        yes("again, as often as one likes", z.again());
        z.order(0, 7);
        z.keep();
        z.order(0, 8);
        yes("again", z.again());
        due("the later IMAGE", 1, z.count(1));
        due("its LOT", 7, z.lot(0, 1));
        yes("again", z.again());
        sentence("THE IMAGE of all");
        Step kept = q -> {
            busy(q);
            q.keep();
            yes("again ahead", q.again());
        };
        sameAsAhead(kept, "again at once", q -> q.again());
        sameAsAhead(kept, "all else and again", q -> {
            changeAll(q);
            yes("again", q.again());
        });
        sameAsAhead(kept, "WEEKS, all else and again", q -> {
            q.load(5, 5, 1);
            q.sail(5, 1);
            q.weeks(7);
            q.need(1, 1, 1000);
            q.weeks(60);
            changeAll(q);
            yes("again", q.again());
        });
        sameAsAhead(kept, "UNDO and again", q -> {
            q.weeks(1);
            q.undo();
            yes("again", q.again());
        });
        sentence("THE IMAGE behind THE END");
        LendHouse w = landed(5, "lend");
        w.keep();
        w.over();
        w.weeks(3);
        yes("again", w.again());
        due("no end", 0, w.count(11));
        due("landed", 5, w.count(15));
        due("over again", 5, w.over());
        w.keep();
        yes("again", w.again());
        due("the end is kept", 1, w.count(11));
    }

    private static void firstActs() {
        sentence("THE IMAGE of all: the ACT that came first, too");
        LendHouse x = new LendHouse();
        x.weeks(1);
        act(x, 1, "lend;lend");
        x.keep();
        yes("undo", x.undo());
        due("no ACT", 0, x.count(3));
        due("another one", 1, act(x, 0, "mark 7"));
        due("lines", 1, x.count(4));
        yes("again", x.again());
        due("the first one", 2, x.count(4));
        LendHouse y = new LendHouse();
        y.keep();
        act(y, 0, "lend;lend");
        y.weeks(1);
        act(y, 1, "give");
        yes("undo", y.undo());
        due("the first one", 2, y.count(4));
        yes("again", y.again());
        due("none", 0, y.count(3));
        due("none", 0, y.count(4));
    }

    private static void booksOfImages() {
        sentence("MUST BE: of WEEKS that are gone through again behind UNDO and THE IMAGE");
        LendHouse x = landed(600, "lend");
        x.need(1, 0, 1);
        for (int i = 0; i < 5; i++) {
            x.weeks(60);
        }
        x.keep();
        x.need(1, 0, 0);
        x.weeks(60);
        yes("undo", x.undo());
        x.weeks(0);
        due("as it was ahead", 600 - 299, x.mustBe(1, 0, 301));
        due("as it was now", 600 - 300, x.mustBe(1, 0, 302));
        x.need(1, 0, 2);
        x.weeks(5);
        due("another way", 600 - 300 - 8, x.mustBe(1, 0, 306));
        yes("again", x.again());
        due("as it was", 600 - 300, x.mustBe(1, 0, 302));
        due("as it was", 600 - 1, x.mustBe(1, 0, 3));
        x.weeks(5);
        due("by the NEED of THE IMAGE", 600 - 304, x.mustBe(1, 0, 306));
        LendHouse y = new LendHouse();
        y.keep();
        act(y, 0, "lend");
        y.order(0, 5);
        y.ask(1, 0, 5, 0);
        y.weeks(1);
        y.allot(0);
        y.ship(5, 0);
        y.load(0, 1, 5);
        y.sail(0, 1);
        y.weeks(9);
        due("landed", 5, y.mustBe(1, 0, 5));
        yes("again", y.again());
        y.weeks(9);
        due("never landed", 0, y.mustBe(1, 0, 5));
    }

    public static void main(String[] args) {
        nothingToUndo();
        lastOfFive();
        allIsAsItWas();
        undoAndTheEnd();
        tapeStays();
        images();
        firstActs();
        booksOfImages();
        finish();
    }
}
