import java.util.ArrayList;
import java.util.Arrays;
import java.util.List;

/**
 * Long rows of drawn calls on a LendHouse and on the PlainModel: every answer must be the same. A house is asked at most
 * 512 times: what is looked at in the end is looked at in houses for which the row is done again.
 */
public final class ModelTest {
    private static final int RUNS = 160;
    private static final int CALLS = 400;
    private static final int LOOKS_AT_ONE_HOUSE = 60;
    private static final String[] FACTS = {"land", "sort", "week", "crates", "tons", "price", "had", "hunger",
        "rocks", "to"};

    private long seed;
    private LendHouse house;
    private PlainModel model;
    private final List<String> told = new ArrayList<>();
    private final List<String> names = new ArrayList<>();
    private final List<int[]> arguments = new ArrayList<>();
    private final List<String> lookNames = new ArrayList<>();
    private final List<int[]> lookArguments = new ArrayList<>();
    private boolean wrong;
    // what kinds of call are drawn more often differs from run to run
    private int bias;

    private ModelTest(long seed) {
        this.seed = seed * 2654435761L + 12345;
    }

    /** A number from 0 to n - 1, by a row of numbers that is always the same. */
    private int draw(int n) {
        seed = seed * 6364136223846793005L + 1442695040888963407L;
        return (int) ((seed >>> 33) % n);
    }

    private boolean chance(int percent) {
        return draw(100) < percent;
    }

    private Object onHouse(String name, int[] a) {
        try {
            return one(name, a);
        } catch (RuntimeException e) {
            return e.getClass().getSimpleName();
        }
    }

    private static long bit(boolean b) {
        return b ? 1 : 0;
    }

    private long one(String name, int[] a) {
        LendHouse x = house;
        switch (name) {
            case "feed": return x.feed(a[0], a[1], a[2], a[3], a[4]);
            case "end": return bit(x.end(a[0]));
            case "sort": x.sort(a[0], a[1], a[2], a[3], a[4]); return 0;
            case "price": return x.price(a[0], a[1], a[2]);
            case "cost": return x.cost(a[0], a[1]);
            case "works": return x.works(a[0], a[1]);
            case "order": return x.order(a[0], a[1]);
            case "lot": return x.lot(a[0], a[1]);
            case "act": return x.act(a[0]);
            case "fault": return x.fault();
            case "ask": return x.ask(a[0], a[1], a[2], a[3]);
            case "weigh": return x.weigh(a[0], a[1]);
            case "allot": return x.allot(a[0]);
            case "label": return bit(x.label(a[0], a[1]));
            case "ship": return x.ship(a[0], a[1]);
            case "way": x.way(a[0], a[1]); return 0;
            case "risk": return x.risk(a[0], a[1], a[2]);
            case "load": return bit(x.load(a[0], a[1], a[2]));
            case "sail": return bit(x.sail(a[0], a[1]));
            case "led": return x.led(a[0], a[1]);
            case "need": x.need(a[0], a[1], a[2]); return 0;
            case "weeks": return x.weeks(a[0]);
            case "give": return x.give(a[0], a[1], a[2], a[3] == 1);
            case "back": return x.back(a[0], a[1], a[2]);
            case "land": return x.land(a[0], a[1]);
            case "balance": return x.balance(a[0], a[1], a[2]);
            case "returned": return x.returned(a[0], a[1], a[2], a[3]);
            case "mustBe": return x.mustBe(a[0], a[1], a[2]);
            default: return other(name, a);
        }
    }

    private long other(String name, int[] a) {
        LendHouse x = house;
        switch (name) {
            case "seen": return x.seen(a[0], a[1], a[2]);
            case "whence": return x.whence(a[0], a[1], a[2] == 1);
            case "rock": return x.rock(a[0], a[1], a[2], a[3]);
            case "net": return x.net(a[0]);
            case "over": return x.over();
            case "tons": x.tons(a[0], a[1]); return 0;
            case "hulls": return x.hulls(a[0]);
            case "bestOrders": return x.bestOrders();
            case "page": return x.page(a[0], a[1]);
            case "signed": return x.signed(a[0], a[1]);
            case "choice": return x.choice(a[0], a[1], a[2], a[3]);
            case "row": x.row(a[0], a[1], a[2], a[3], a[4]); return 0;
            case "lasts": return x.lasts();
            case "cash": return x.cash(a[0], a[1], a[2], a[3], a[4]);
            case "tear": return x.tear(a[0], a[1]);
            case "check": return x.check();
            case "undo": return bit(x.undo());
            case "keep": x.keep(); return 0;
            case "again": return bit(x.again());
            case "count": return x.count(a[0]);
            default: throw new AssertionError("no call " + name);
        }
    }

    private Object both(String name, int... a) {
        Object want = model.call(name, a);
        Object got = onHouse(name, a);
        names.add(name);
        arguments.add(a);
        told.add(name + Arrays.toString(a) + " => " + want);
        compare(name, a, want, got);
        return want;
    }

    private void compare(String name, int[] a, Object want, Object got) {
        if (!want.equals(got) && !wrong) {
            wrong = true;
            System.out.println(name + Arrays.toString(a) + " answered " + got + ", due is " + want + ", behind:");
            for (String line : told) {
                System.out.println("  " + line);
            }
        }
    }

    private int counted(int what) {
        return (int) (long) (Long) model.call("count", what);
    }

    /** Mostly within bounds, sometimes at them or just outside, seldom far away. */
    private int near(int least, int most) {
        int kind = draw(60);
        if (kind == 0) {
            return least - 1;
        }
        if (kind == 1) {
            return most + 1;
        }
        if (kind == 2) {
            return chance(50) ? least : most;
        }
        if (kind == 3 && chance(20)) {
            return chance(50) ? Integer.MIN_VALUE : Integer.MAX_VALUE;
        }
        return least + draw(Math.max(1, most - least + 1));
    }

    private int aLand() {
        return chance(96) ? 1 + draw(chance(70) ? 2 : 5) : near(0, 5);
    }

    private int aSort() {
        return chance(96) ? draw(chance(75) ? 2 : 8) : near(0, 7);
    }

    private int lots() {
        return counted(1);
    }

    private int aLot() {
        return chance(97) && lots() > 0 ? (chance(50) ? draw(lots()) : Math.max(0, lots() - 1 - draw(6)))
                : near(0, Math.max(0, lots() - 1));
    }

    private int aShip() {
        return chance(97) ? draw(Math.max(1, counted(6))) : near(0, 11);
    }

    private int aWeekOn() {
        return chance(90) ? counted(0) + draw(4) : near(0, 500);
    }

    private int crates() {
        return chance(90) ? 1 + draw(30) : near(1, 1000);
    }

    private String sum() {
        StringBuilder sum = new StringBuilder();
        for (int more = 1 + draw(chance(20) ? 3 : 1); more > 0; more--) {
            sum.append(chance(75) ? FACTS[draw(10)] : Integer.toString(draw(chance(60) ? 12 : 300)));
            sum.append(more > 1 ? "+" : "");
        }
        return sum.toString();
    }

    private String atom(int deep) {
        if (deep < 7 && chance(15)) {
            return "not " + atom(deep + 1);
        }
        if (deep < 7 && chance(20)) {
            return "(" + any(deep + 1) + ")";
        }
        return sum() + (chance(50) ? " < " : ">") + (chance(70) ? Integer.toString(draw(40)) : sum());
    }

    private String any(int deep) {
        String text = atom(deep);
        for (int more = draw(chance(30) ? 3 : 1); more > 0; more--) {
            text += (chance(50) ? " and " : "  or ") + atom(deep);
        }
        return text;
    }

    private String text() {
        StringBuilder text = new StringBuilder(chance(80) ? "lend" + (chance(50) ? " if " + any(0) : "") : "");
        for (int more = draw(chance(90) ? 5 : 14); more > 0; more--) {
            String[] words = {"lend", "mark " + draw(chance(80) ? 6 : 200000), "owe " + draw(chance(90) ? 101 : 200),
                "give"};
            text.append(text.length() > 0 ? ";" : "").append(words[draw(4)]);
            text.append(chance(60) ? " if " + any(0) : "");
        }
        for (int harm = chance(25) ? 1 + draw(2) : 0; harm > 0 && text.length() > 0; harm--) {
            int at = draw(text.length());
            if (chance(40)) {
                text.deleteCharAt(at);
            } else if (chance(50)) {
                text.insert(at, "; ()<>+79anot".charAt(draw(13)));
            } else {
                text.setCharAt(at, chance(80) ? ";( )<+z0".charAt(draw(8)) : (char) draw(256));
            }
        }
        return text.length() <= 400 ? text.toString() : text.substring(0, 400);
    }

    private static int bytes(String text, int at) {
        int n = 0;
        for (int i = at; i < at + 4; i++) {
            n = n << 8 | (i < text.length() ? text.charAt(i) & 255 : 'x');
        }
        return n;
    }

    private void readAct() {
        String text = text();
        if (chance(95)) {
            both("end", 0);
        }
        for (int at = 0; at < text.length(); at += 20) {
            both("feed", bytes(text, at), bytes(text, at + 4), bytes(text, at + 8), bytes(text, at + 12),
                    bytes(text, at + 16));
        }
        both("end", text.length());
        both("act", aWeekOn());
        both("fault");
    }

    /** Orders, requests, an allotment and a voyage, so that goods come to LANDS at all. */
    private void lendSome() {
        int sort = aSort();
        both("order", sort, crates());
        both("ask", aLand(), sort, crates(), draw(4));
        both("ask", aLand(), sort, crates(), draw(4));
        both("weeks", 1);
        both("allot", sort);
        sendSome();
    }

    private void sendSome() {
        int ship = aShip();
        int lot = aLot();
        Object port = model.call("lot", lot, 11);
        Object land = model.call("lot", lot, 2);
        Object landed = model.call("lot", lot, 13);
        if (port instanceof Long && land instanceof Long && landed instanceof Long) {
            both("load", ship, lot, (int) Math.max((Long) port, (Long) landed) / (1 + draw(2)));
            both("sail", ship, chance(50) ? (int) (long) (Long) land : 0);
        }
    }

    private void change() {
        int week = counted(0);
        switch (draw(38)) {
            case 0: both("sort", aSort(), near(1, 5), near(0, 3), near(0, 3), near(1, 3)); break;
            case 1: both("price", aSort(), aWeekOn(), near(0, chance(80) ? 20 : 1000)); break;
            case 2: both("works", near(0, 300), near(0, 200)); break;
            case 3: case 4: both("order", aSort(), crates()); break;
            case 5: readAct(); break;
            case 6: case 7: both("ask", aLand(), aSort(), crates(), chance(80) ? draw(4) : near(0, 9999)); break;
            case 8: case 9: both("allot", aSort()); break;
            case 10: both("label", aLot(), near(0, 9)); break;
            case 11: both("ship", near(1, chance(80) ? 200 : 5000), near(0, 99)); break;
            case 12: both("way", aLand(), chance(80) ? 1 + draw(2) : near(1, 6)); break;
            case 13: both("risk", aLand(), aWeekOn(), near(0, chance(80) ? 20 : 100)); break;
            case 14: case 15: case 16: both("load", aShip(), aLot(), chance(70) ? 1 + draw(5) : crates()); break;
            case 17: case 18: both("sail", aShip(), chance(50) ? 0 : aLand()); break;
            case 19: both("need", aLand(), aSort(), near(0, 12)); break;
            case 20: case 21: both("weeks", chance(85) ? draw(3) : near(0, chance(60) ? 10 : 60)); break;
            case 22: case 23: both("give", aLot(), chance(70) ? 1 + draw(4) : crates(), aLand(), draw(2)); break;
            case 24: both("back", aLand(), aSort(), crates()); break;
            case 25: both("returned", aLand(), aSort(), chance(90) ? Math.max(0, week - draw(3)) : near(0, week),
                    near(0, 30)); break;
            case 26: both("seen", aLand(), aSort(), near(1, 60)); break;
            case 27: both("rock", aLand(), near(1, 6), near(0, 100), near(0, 20)); break;
            case 28: both("tons", aLand(), near(0, 150)); break;
            case 29: both("page", near(-20, 20), near(-20, 20)); break;
            case 30: both("choice", near(0, 9), near(0, 4), near(0, 9), near(0, 9)); break;
            case 31: both("row", near(0, 2), near(0, 4), near(0, 30), near(0, 4), near(0, 4)); break;
            case 32: both("tear", near(0, 5), chance(50) ? 1 + draw(3) : draw(1000) - 500); break;
            case 33: both(chance(60) ? "undo" : chance(40) ? "keep" : "again"); break;
            case 34: case 35: lendSome(); break;
            case 36: sendSome(); break;
            default: if (chance(3 + bias)) {
                    both("over");
                }
        }
    }

    private void look() {
        switch (draw(17)) {
            case 0: both("cost", aSort(), chance(50) ? aWeekOn() : near(-5, 505)); break;
            case 1: both("lot", aLot(), near(0, 18)); break;
            case 2: both("weigh", near(0, 20), near(0, 5)); break;
            case 3: both("led", aShip(), near(0, 5)); break;
            case 4: case 5: case 6: both("land", aLand(), near(0, 7)); break;
            case 7: both("balance", aLand(), near(0, 2), near(0, 30)); break;
            case 8: both("mustBe", aLand(), aSort(), near(0, counted(0))); break;
            case 9: both("whence", aLand(), aSort(), draw(2)); break;
            case 10: both("net", near(0, 5)); break;
            case 11: both("hulls", near(-1, 11)); break;
            case 12: both("bestOrders"); break;
            case 13: both("signed", near(-20, 20), near(-20, 20)); break;
            case 14: both("lasts"); break;
            case 15: both("cash", near(0, 3000), near(0, 3000), near(0, 3000), near(0, 3000), near(0, 3000)); break;
            default: both("check"); both("count", near(0, 20));
        }
    }

    private void see(String name, int... a) {
        lookNames.add(name);
        lookArguments.add(a);
    }

    private void lookAtAll() {
        lookNames.clear();
        lookArguments.clear();
        collectLooks();
        int row = names.size();
        for (int at = 0; at < lookNames.size() && !wrong; at++) {
            if (at % LOOKS_AT_ONE_HOUSE == 0) {
                doRowAgain(row);
            }
            Object want = model.call(lookNames.get(at), lookArguments.get(at));
            Object got = onHouse(lookNames.get(at), lookArguments.get(at));
            compare(lookNames.get(at), lookArguments.get(at), want, got);
        }
        doRowAgain(row);
    }

    private void doRowAgain(int calls) {
        house = new LendHouse();
        for (int i = 0; i < calls; i++) {
            onHouse(names.get(i), arguments.get(i));
        }
    }

    private void collectLooks() {
        for (int what = 0; what <= 20; what++) {
            see("count", what);
        }
        for (int lot = 0; lot < lots(); lot++) {
            for (int what = 0; what <= 18; what++) {
                see("lot", lot, what);
            }
        }
        for (int request = 0; request < 60 && !(model.call("weigh", request, 3) instanceof String); request++) {
            for (int what = 0; what <= 5; what++) {
                see("weigh", request, what);
            }
        }
        for (int ship = 0; ship < counted(6); ship++) {
            see("hulls", ship);
            for (int what = 0; what <= 5; what++) {
                see("led", ship, what);
            }
        }
        see("hulls", -1);
        for (int land = 1; land <= 5; land++) {
            for (int what = 0; what <= 7; what++) {
                see("land", land, what);
            }
            for (int what = 0; what <= 2; what++) {
                see("balance", land, what, counted(0));
            }
            for (int sort = 0; sort <= 7; sort++) {
                see("whence", land, sort, 0);
                see("whence", land, sort, 1);
                see("mustBe", land, sort, draw(counted(0) + 1));
            }
        }
        see("check");
        see("lasts");
        see("bestOrders");
    }

    private boolean run(int number) {
        house = new LendHouse();
        model = new PlainModel();
        bias = number % 5 == 0 ? 30 : 0;
        if (number % 4 != 0) {
            both("works", 100000, 100000);
            both("ship", 300, draw(100));
            both("ship", 90, draw(100));
            both("feed", 0x6c656e64, 0x3b676976, 0x65206966, 0x2031303e, 0x746f2b74);
            both("feed", 0x6f3b6f77, 0x65203330, 0, 0, 0);
            both("end", 28);
            both("act", 0);
        }
        while (names.size() < CALLS && !wrong) {
            if (chance(70)) {
                change();
            } else {
                look();
            }
        }
        if (!wrong) {
            lookAtAll();
            both("again");
            lookAtAll();
        }
        return !wrong;
    }

    public static void main(String[] args) {
        int runs = args.length > 0 ? Integer.parseInt(args[0]) : RUNS;
        int from = args.length > 1 ? Integer.parseInt(args[1]) : 0;
        for (int number = from; number < from + runs; number++) {
            if (!new ModelTest(number).run(number)) {
                System.out.println("in run " + number);
                System.exit(1);
            }
        }
        System.out.println("all answers are as due");
    }
}
