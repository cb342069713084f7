import java.util.ArrayList;
import java.util.IdentityHashMap;
import java.util.List;
import java.util.Map;

/**
 * What the tests of edges have in common: comparing an answer, looking at a refused call from all sides, and texts.
 * A house is asked at most 512 times: what looks at more makes its house anew.
 */
abstract class Checks {
    interface Step {
        void on(LendHouse x);
    }

    interface Deed {
        long on(LendHouse x);
    }

    interface NumberStep {
        void on(LendHouse x, int n);
    }

    private static final class Look {
        final String name;
        final Deed deed;

        Look(String name, Deed deed) {
            this.name = name;
            this.deed = deed;
        }
    }

    static final int NONE = LendHouse.NONE;
    static final int MIN = Integer.MIN_VALUE;
    static final int MAX = Integer.MAX_VALUE;
    static final String INDEX = "IndexOutOfBoundsException";
    static final String ARGUMENT = "IllegalArgumentException";
    static final String SUPPORT = "UnsupportedOperationException";
    static final String STATE = "IllegalStateException";
    static final String ELEMENT = "NoSuchElementException";

    private static final int LOOKS_AT_ONE_HOUSE = 220;
    private static final Step NOTHING = x -> { };

    private static int wrong = 0;
    private static String part = "";
    private static final Map<Step, List<String>> SEEN = new IdentityHashMap<>();

    /** The sentence that the next lines look at. */
    static void sentence(String words) {
        part = words;
    }

    static void due(String call, long want, long got) {
        if (got != want) {
            complain(call + " answered " + got + ", due is " + want);
        }
    }

    static void yes(String call, boolean got) {
        due(call, 1, bit(got));
    }

    static void no(String call, boolean got) {
        due(call, 0, bit(got));
    }

    static long bit(boolean b) {
        return b ? 1 : 0;
    }

    private static void complain(String words) {
        wrong++;
        System.out.println(part + ": " + words);
    }

    /** Ends the program, with exit code 1 if an answer was not the one that is due. */
    static void finish() {
        System.out.println(wrong == 0 ? "all answers are as due" : wrong + " answers are not as due");
        if (wrong != 0) {
            System.exit(1);
        }
    }

    static LendHouse made(Step scene) {
        LendHouse x = new LendHouse();
        scene.on(x);
        return x;
    }

    // ---- what is refused

    private static String outcome(Deed deed, LendHouse x) {
        try {
            return String.valueOf(deed.on(x));
        } catch (RuntimeException e) {
            return e.getClass().getSimpleName();
        }
    }

    private static Deed asDeed(Step step) {
        return x -> {
            step.on(x);
            return 0;
        };
    }

    private static void thrown(String call, String want, LendHouse x, Step step) {
        String got = outcome(asDeed(step), x);
        if (!got.equals(want)) {
            complain(call + " gave " + got + ", due is " + want);
        }
    }

    /** The call throws that, and all is as it was ahead of it, whatever is done then. */
    static void refused(Step scene, String call, String want, Step step) {
        thrown(call, want, made(scene), step);
        sameAsAhead(scene, call, step);
    }

    /** As refused(), with each of several numbers. */
    static void each(Step scene, String want, String name, int[] numbers, NumberStep step) {
        for (int n : numbers) {
            refused(scene, name + " " + n, want, x -> step.on(x, n));
        }
    }

    /** As refused(), for a call that uses the TAPE up and may change fault(). */
    static void refusedText(Step scene, String call, String want, Step step) {
        LendHouse x = made(scene);
        thrown(call, want, x, step);
        no(call + " left something on the tape", x.end(1));
        compare(call, look(scene, NOTHING, false), look(scene, step, false));
    }

    /** The call answers that, and nothing happens. */
    static void idle(Step scene, String call, long want, Deed deed) {
        due(call, want, deed.on(made(scene)));
        sameAsAhead(scene, call, deed::on);
    }

    /** Behind the call (or several) all is as it was ahead of it, whatever is done then. */
    static void sameAsAhead(Step scene, String call, Step step) {
        if (!SEEN.containsKey(scene)) {
            SEEN.put(scene, look(scene, NOTHING, true));
        }
        compare(call, SEEN.get(scene), look(scene, step, true));
    }

    private static void compare(String call, List<String> ahead, List<String> behind) {
        if (ahead.equals(behind)) {
            return;
        }
        for (int i = 0; i < Math.min(ahead.size(), behind.size()); i++) {
            if (!ahead.get(i).equals(behind.get(i))) {
                complain(call + " changed [" + ahead.get(i) + "] to [" + behind.get(i) + "]");
                return;
            }
        }
        complain(call + " changed how much there is to be seen");
    }

    /** All that a house answers behind a step: as it is, and behind what brings to light what is hidden. */
    private static List<String> look(Step scene, Step step, boolean tape) {
        List<String> lines = new ArrayList<>();
        look("now", scene, step, x -> 0, lines);
        look("undo", scene, step, x -> bit(x.undo()), lines);
        look("again", scene, step, x -> bit(x.again()), lines);
        look("a week", scene, step, x -> x.weeks(1), lines);
        look("over", scene, step, x -> x.over(), lines);
        look("sailing", scene, step, Checks::sailAll, lines);
        look("allotting", scene, step, Checks::allotAll, lines);
        look("telling", scene, step, Checks::tellMore, lines);
        if (tape) {
            look("reading", scene, step, Checks::readAll, lines);
            look("feeding", scene, step, x -> x.feed(1, 2, 3, 4, 5), lines);
            look("fault", scene, step, x -> x.fault(), lines);
        }
        return lines;
    }

    private static void look(String view, Step scene, Step step, Deed deed, List<String> lines) {
        List<Look> looks = looksAt(built(view, scene, step, deed, lines));
        for (int from = 0; from < looks.size(); from += LOOKS_AT_ONE_HOUSE) {
            LendHouse x = built(view, scene, step, deed, null);
            for (Look look : looks.subList(from, Math.min(looks.size(), from + LOOKS_AT_ONE_HOUSE))) {
                lines.add(view + ": " + look.name + " " + outcome(look.deed, x));
            }
        }
    }

    private static LendHouse built(String view, Step scene, Step step, Deed deed, List<String> lines) {
        LendHouse x = made(scene);
        outcome(asDeed(step), x);
        String answer = outcome(deed, x);
        if (lines != null) {
            lines.add(view + " " + answer);
        }
        return x;
    }

    /** What all SHIPS answer as they sail, each to LAND 1 or home, in the first WEEK and in the one behind it. */
    private static long sailAll(LendHouse x) {
        long answer = 0;
        for (int week = 0; week < 2; week++) {
            for (int ship = 0; ship < x.count(6); ship++) {
                int sails = ship;
                answer = answer * 3 + outcome(y -> bit(y.sail(sails, 1)), x).length();
                answer = answer * 3 + outcome(y -> bit(y.sail(sails, 0)), x).length();
            }
            x.weeks(1);
        }
        return answer;
    }

    private static long allotAll(LendHouse x) {
        long answer = 0;
        for (int sort = 0; sort < 8; sort++) {
            answer = answer * 7 + x.allot(sort);
        }
        return answer;
    }

    private static long readAll(LendHouse x) {
        long lines = x.act(x.count(0));
        return lines * 1000 + x.fault();
    }

    /** How many there are of all that is told, by telling one more. */
    private static long tellMore(LendHouse x) {
        Deed[] deeds = {
            y -> y.price(0, 500, 1), y -> y.risk(1, 500, 1), y -> y.returned(1, 0, 0, 1), y -> y.seen(1, 0, 1),
            y -> y.page(1, 1), y -> y.choice(1, 1, 1, 1), y -> y.works(0, 0), y -> y.tear(0, 1), y -> y.tear(5, 1),
            y -> y.ship(1, 0), y -> y.rock(1, 1, 1, 1), y -> y.ask(1, 0, 1, 1), y -> y.order(0, 1),
        };
        long answer = 0;
        for (Deed deed : deeds) {
            answer = answer * 31 + outcome(deed, x).hashCode();
        }
        return answer;
    }

    private static List<Look> looksAt(LendHouse x) {
        List<Look> looks = new ArrayList<>();
        int week = x.count(0);
        for (int what = -1; what <= 21; what++) {
            int w = what;
            looks.add(new Look("count(" + what + ")", y -> y.count(w)));
        }
        looks.add(new Look("check", LendHouse::check));
        looks.add(new Look("bestOrders", LendHouse::bestOrders));
        looks.add(new Look("lasts", LendHouse::lasts));
        looks.add(new Look("signed(0, 0)", y -> y.signed(0, 0)));
        looks.add(new Look("signed(-9999, -9999)", y -> y.signed(-9999, -9999)));
        looks.add(new Look("hulls(NONE)", y -> y.hulls(NONE)));
        looks.add(new Look("cash(0)", y -> y.cash(0, 0, 0, 0, 0)));
        looks.add(new Look("cash(200)", y -> y.cash(200, 200, 200, 200, 200)));
        addLots(looks, x.count(1));
        addRequestsAndShips(looks, x);
        addLands(looks, week);
        for (int base = 0; base < x.count(9); base++) {
            int b = base;
            looks.add(new Look("net(" + base + ")", y -> y.net(b)));
        }
        return looks;
    }

    private static void addLots(List<Look> looks, int lots) {
        for (int lot = 0; lot < lots; lot++) {
            for (int what = 0; what <= 18; what++) {
                int l = lot;
                int w = what;
                looks.add(new Look("lot(" + lot + ", " + what + ")", y -> y.lot(l, w)));
            }
        }
    }

    private static void addRequestsAndShips(List<Look> looks, LendHouse x) {
        boolean more = true;
        for (int request = 0; request < 61 && more; request++) {
            int r = request;
            for (int what = 0; what <= 5; what++) {
                int w = what;
                looks.add(new Look("weigh(" + request + ", " + what + ")", y -> y.weigh(r, w)));
            }
            more = !outcome(y -> y.weigh(r, 0), x).equals(INDEX);
        }
        for (int ship = 0; ship < x.count(6); ship++) {
            int s = ship;
            looks.add(new Look("hulls(" + ship + ")", y -> y.hulls(s)));
            for (int what = 0; what <= 5; what++) {
                int w = what;
                looks.add(new Look("led(" + ship + ", " + what + ")", y -> y.led(s, w)));
            }
        }
    }

    private static void addLands(List<Look> looks, int week) {
        for (int land = 1; land <= 5; land++) {
            int l = land;
            for (int what = 0; what <= 7; what++) {
                int w = what;
                looks.add(new Look("land(" + land + ", " + what + ")", y -> y.land(l, w)));
            }
            for (int what = 0; what <= 2; what++) {
                int w = what;
                looks.add(new Look("balance(" + land + ", " + what + ")", y -> y.balance(l, w, week)));
            }
        }
        for (int sort = 0; sort <= 7; sort++) {
            int s = sort;
            looks.add(new Look("cost(" + sort + ", now)", y -> y.cost(s, week)));
            looks.add(new Look("cost(" + sort + ", 500)", y -> y.cost(s, 500)));
            for (int land = 1; land <= 5; land++) {
                int l = land;
                looks.add(new Look("whence(" + land + ", " + sort + ")", y -> y.whence(l, s, false)));
                looks.add(new Look("mustBe(" + land + ", " + sort + ", now)", y -> y.mustBe(l, s, week)));
                if (sort < 2) {
                    looks.add(new Look("mustBe(" + land + ", " + sort + ", ahead)",
                            y -> y.mustBe(l, s, Math.max(0, week - 1))));
                }
            }
            looks.add(new Look("whence(1, " + sort + ", true)", y -> y.whence(1, s, true)));
        }
    }

    // ---- texts

    private static int asBytes(String text, int at) {
        int n = 0;
        for (int i = at; i < at + 4; i++) {
            n = n << 8 | (i < text.length() ? text.charAt(i) & 255 : 0);
        }
        return n;
    }

    /** The TAPE has that text alone. */
    static void write(LendHouse x, String text) {
        x.end(0);
        for (int at = 0; at < text.length(); at += 20) {
            x.feed(asBytes(text, at), asBytes(text, at + 4), asBytes(text, at + 8), asBytes(text, at + 12),
                    asBytes(text, at + 16));
        }
        x.end(text.length());
    }

    static int act(LendHouse x, int week, String text) {
        write(x, text);
        return x.act(week);
    }

    /** A text whose first wrong byte is told. */
    static void wrongAt(String text, int want) {
        LendHouse x = new LendHouse();
        write(x, text);
        thrown("act of [" + text + "]", ARGUMENT, x, y -> y.act(0));
        due("fault() of [" + text + "]", want, x.fault());
        due("acts behind [" + text + "]", 0, x.count(3));
    }

    /** A text of so many LINES. */
    static void right(String text, int lines) {
        LendHouse x = new LendHouse();
        due("act of [" + text + "]", lines, Long.parseLong(outcome(y -> act(y, 0, text), x).replaceAll("[A-Z].*", "-7")));
        due("fault() of [" + text + "]", NONE, x.fault());
        due("acts behind [" + text + "]", 1, x.count(3));
        due("lines behind [" + text + "]", lines, x.count(4));
    }

    static String times(int n, String text) {
        return text.repeat(n);
    }

    // ---- houses to start from

    /** So many crates of SORT 0 lent to LAND 1 as LOT 1 (LOT 0 was the STOCK), at WEEK 1. */
    static LendHouse lent(int crates, String text) {
        LendHouse x = new LendHouse();
        act(x, 0, text);
        x.order(0, crates);
        x.ask(1, 0, crates, 0);
        x.weeks(1);
        due("allot ahead", crates, x.allot(0));
        return x;
    }

    /** As lent(), then landed in LAND 1 at WEEK 2 by SHIP 0. */
    static LendHouse landed(int crates, String text) {
        LendHouse x = lent(crates, text);
        x.ship(5000, 0);
        x.way(1, 1);
        yes("load ahead", x.load(0, 1, crates));
        yes("sail ahead", x.sail(0, 1));
        x.weeks(1);
        due("landed ahead", crates, x.land(1, 3));
        return x;
    }

    /** So many crates of a SORT lent to a LAND as LOT 1 and landed there at WEEK 2 by SHIP 0. */
    static LendHouse landedOf(int land, int sort, int crates, String text) {
        LendHouse x = new LendHouse();
        act(x, 0, text);
        x.order(sort, crates);
        x.ask(land, sort, crates, 0);
        x.weeks(1);
        due("allot ahead", crates, x.allot(sort));
        x.ship(5000, 0);
        x.way(land, 1);
        yes("load ahead", x.load(0, 1, crates));
        yes("sail ahead", x.sail(0, land));
        x.weeks(1);
        return x;
    }

    /** A house at WEEK 4 with something of everything. */
    static void busy(LendHouse x) {
        act(x, 0, "mark 3;mark 2 if hunger>2;lend;owe 40;owe 60 if crates>15;give if to<3");
        x.sort(0, 2, 1, 1, 1);
        x.sort(1, 3, 0, 0, 2);
        x.price(0, 0, 10);
        x.price(0, 3, 20);
        x.price(1, 2, 7);
        x.works(500, 100);
        x.order(0, 60);
        x.order(1, 30);
        x.ask(1, 0, 20, 5);
        x.ask(2, 0, 10, 3);
        x.ask(3, 1, 8, 0);
        x.ask(1, 1, 40, 9);
        x.weeks(1);
        x.allot(0);
        x.weeks(1);
        x.allot(1);
        x.label(2, 3);
        x.label(3, 2);
        sendShips(x);
        x.need(1, 0, 3);
        x.need(2, 0, 5);
        x.need(3, 1, 2);
        x.weeks(1);
        x.give(3, 4, 2, false);
        x.give(2, 2, 4, true);
        x.back(1, 0, 5);
        x.load(0, 8, 3);
        x.sail(0, 0);
        x.order(0, 10);
        x.order(1, 12);
        x.order(0, 600);
        tellOfEverything(x);
        x.keep();
        x.weeks(1);
        x.seen(2, 0, 60);
        x.returned(2, 0, 4, 1);
        x.order(0, 7);
        x.load(5, 5, 2);
        x.end(0);
        x.feed(0x6d61726b, 0x20373b6c, 0x656e643b, 0x206f7765, 0x20393000);
        x.end(19);
    }

    private static void sendShips(LendHouse x) {
        x.ship(40, 50);
        x.ship(100, 10);
        x.ship(30, 63);
        x.ship(60, 20);
        x.ship(5, 5);
        x.ship(9, 9);
        x.way(1, 1);
        x.way(2, 1);
        x.load(0, 3, 15);
        x.sail(0, 1);
        x.load(1, 2, 10);
        x.sail(1, 2);
        x.load(2, 4, 5);
        x.sail(2, 3);
        x.load(3, 5, 4);
        x.sail(3, 1);
        x.way(1, 3);
        x.risk(3, 3, 100);
        x.risk(1, 5, 40);
        x.sail(4, 5);
    }

    private static void tellOfEverything(LendHouse x) {
        for (int i = 0; i < 7; i++) {
            x.returned(1 + i % 3, i % 2, i % 4, 3 * i);
        }
        x.tear(4, 5);
        x.seen(1, 0, 50);
        x.seen(2, 0, 5);
        x.rock(1, 4, 100, 30);
        x.rock(2, 2, 10, 5);
        x.tons(1, 7);
        x.page(5, -3);
        x.page(-2, 6);
        x.page(1, 1);
        x.choice(3, 2, 5, 5);
        x.choice(0, 1, 5, 0);
        for (int row = 0; row < 3; row++) {
            for (int year = 2; year < 5; year++) {
                x.row(row, year, 30, 5 - row, row + 3);
            }
        }
    }
}
