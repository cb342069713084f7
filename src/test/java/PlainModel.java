import java.util.ArrayList;
import java.util.Arrays;
import java.util.HashMap;
import java.util.List;
import java.util.Map;
import java.util.function.ToLongFunction;
import java.util.regex.Matcher;
import java.util.regex.Pattern;

/**
 * The document written a second time, slowly and plainly: every crate is an object, what was told is searched anew each
 * time, and going back is doing all calls again up to that place. An answer is a number, or the name of an exception.
 */
final class PlainModel {
    private static final long NONE = -1;
    private static final int HUNDRED = 100;

    private static final class Refused extends RuntimeException {
        Refused(String name) {
            super(name);
        }
    }

    private static final class Fault extends RuntimeException {
        final int at;

        Fault(int at) {
            this.at = at;
        }
    }

    private static Refused index() {
        return new Refused("IndexOutOfBoundsException");
    }

    private static Refused argument() {
        return new Refused("IllegalArgumentException");
    }

    private static Refused support() {
        return new Refused("UnsupportedOperationException");
    }

    private static Refused state() {
        return new Refused("IllegalStateException");
    }

    private static Refused element() {
        return new Refused("NoSuchElementException");
    }

    // ---------------------------------------------------------------- acts

    private interface Test {
        boolean holds(Map<String, Long> facts);
    }

    private static final class Line {
        String word;
        int number;
        Test test = facts -> true;
    }

    private static final class Parser {
        static final Pattern THING = Pattern.compile(" *([a-z]+|[0-9]+|[^ ]|$)", Pattern.DOTALL);
        static final List<String> FACTS = List.of("land", "sort", "week", "crates", "tons", "price", "had", "hunger",
                "rocks", "to");
        final List<String> things = new ArrayList<>();
        final List<Integer> begins = new ArrayList<>();
        int i = 0;

        Parser(String text) {
            Matcher m = THING.matcher(text);
            int at = 0;
            while (true) {
                m.find(at);
                things.add(m.group(1));
                begins.add(m.start(1));
                at = m.end();
                if (m.group(1).isEmpty()) {
                    return;
                }
            }
        }

        String see() {
            return things.get(i);
        }

        Fault fault() {
            return new Fault(begins.get(i));
        }

        boolean takes(String thing) {
            if (see().equals(thing)) {
                i++;
                return true;
            }
            return false;
        }

        int number(int most) {
            if (!see().matches("[0-9]{1,5}") || Integer.parseInt(see()) > most) {
                throw fault();
            }
            return Integer.parseInt(things.get(i++));
        }

        List<Line> text() {
            List<Line> lines = new ArrayList<>();
            if (see().isEmpty()) {
                return lines;
            }
            do {
                if (lines.size() == 12) {
                    throw fault();
                }
                lines.add(line());
            } while (takes(";"));
            if (!see().isEmpty()) {
                throw fault();
            }
            return lines;
        }

        Line line() {
            Line line = new Line();
            line.word = see();
            if (takes("mark")) {
                line.number = number(99999);
            } else if (takes("owe")) {
                line.number = number(100);
            } else if (!takes("lend") && !takes("give")) {
                throw fault();
            }
            if (takes("if")) {
                line.test = any(0);
            }
            return line;
        }

        Test any(int deep) {
            Test first = all(deep);
            if (takes("or")) {
                Test rest = any(deep);
                return f -> first.holds(f) || rest.holds(f);
            }
            return first;
        }

        Test all(int deep) {
            Test first = atom(deep);
            if (takes("and")) {
                Test rest = all(deep);
                return f -> first.holds(f) && rest.holds(f);
            }
            return first;
        }

        Test atom(int deep) {
            if (deep == 6 && (see().equals("(") || see().equals("not"))) {
                throw fault();
            }
            if (takes("not")) {
                Test test = atom(deep + 1);
                return f -> !test.holds(f);
            }
            if (takes("(")) {
                Test test = any(deep + 1);
                if (!takes(")")) {
                    throw fault();
                }
                return test;
            }
            ToLongFunction<Map<String, Long>> a = sum();
            boolean less = see().equals("<");
            if (!takes("<") && !takes(">")) {
                throw fault();
            }
            ToLongFunction<Map<String, Long>> b = sum();
            return f -> less ? a.applyAsLong(f) < b.applyAsLong(f) : a.applyAsLong(f) > b.applyAsLong(f);
        }

        ToLongFunction<Map<String, Long>> sum() {
            ToLongFunction<Map<String, Long>> first = part();
            if (takes("+")) {
                ToLongFunction<Map<String, Long>> rest = sum();
                return f -> first.applyAsLong(f) + rest.applyAsLong(f);
            }
            return first;
        }

        ToLongFunction<Map<String, Long>> part() {
            String fact = see();
            if (FACTS.contains(fact)) {
                i++;
                return f -> f.get(fact);
            }
            long n = number(99999);
            return f -> n;
        }
    }

    private static final class Act {
        int week;
        List<Line> lines;
    }

    // ---------------------------------------------------------------- things

    private static final class Crate {
        int place;
        Ship ship;
    }

    private static final class Lot {
        int sort;
        int land;
        boolean back;
        int done;
        boolean begun;
        int allotted = -1;
        int label;
        int source = -1;
        boolean wrong;
        int owe;
        long price;
        final List<Crate> crates = new ArrayList<>();

        boolean lent() {
            return land > 0 && !back;
        }

        int at(int place) {
            int n = 0;
            for (Crate c : crates) {
                n += c.place == place ? 1 : 0;
            }
            return n;
        }

        int aboard(Ship ship) {
            int n = 0;
            for (Crate c : crates) {
                n += c.ship == ship ? 1 : 0;
            }
            return n;
        }

        void move(int n, int from, int to, Ship ship) {
            int left = n;
            for (Crate c : crates) {
                if (left > 0 && c.place == from) {
                    c.place = to;
                    c.ship = ship;
                    left--;
                }
            }
        }
    }

    private static final class Ship {
        int hold;
        int luck;
        int state;
        int land;
        int left;
        int lost = -1;
    }

    private static final class Base {
        int land;
        int from;
        int weeks;
        int cost;
        int yield;
        int yields;
    }

    private static final class Ask {
        int land;
        int sort;
        int crates;
        int drawn;
        int has;
    }

    /** What was told: some numbers together. */
    private record Told(int... n) {
        boolean of(int... first) {
            for (int i = 0; i < first.length; i++) {
                if (n[i] != first[i]) {
                    return false;
                }
            }
            return true;
        }
    }

    /** All that UNDO and THE IMAGE bring back. */
    private static final class State {
        int week;
        int steel;
        int hands;
        boolean ended;
        final int[][] sorts = new int[8][];
        final List<Told> prices = new ArrayList<>();
        final List<Told> risks = new ArrayList<>();
        final List<Lot> lots = new ArrayList<>();
        final List<Act> acts = new ArrayList<>();
        final List<Ask> asks = new ArrayList<>();
        final List<Ship> ships = new ArrayList<>();
        final List<Base> bases = new ArrayList<>();
        final List<int[]> returns = new ArrayList<>();
        final List<Told> seen = new ArrayList<>();
        final List<Told> pages = new ArrayList<>();
        final List<Told> choices = new ArrayList<>();
        final Map<String, int[]> rows = new HashMap<>();
        final int[] way = {0, 2, 2, 2, 2, 2};
        final int[] tons = new int[6];
        final int[] mood = new int[6];
        final long[] hunger = new long[6];
        final int[][] need = new int[6][8];
        final int[][] everByShip = new int[6][8];
        final int[][] everGiven = new int[6][8];
        final List<int[][]> ends = new ArrayList<>();

        State() {
            for (int i = 0; i < 8; i++) {
                sorts[i] = new int[] {1, 0, 0, 1};
            }
        }
    }

    // ---------------------------------------------------------------- the model

    private State s = new State();
    private List<Object[]> log = new ArrayList<>();
    private List<Object[]> image = null;
    private int mark = -1;
    private StringBuilder tape = new StringBuilder();
    private long fault = NONE;

    /** One call of the face: a number, or the name of an exception. */
    Object call(String name, int... a) {
        try {
            return run(name, a);
        } catch (Refused e) {
            return e.getMessage();
        }
    }

    private long run(String name, int[] a) {
        switch (name) {
            case "feed":
                if (tape.length() + 20 > 400) {
                    return NONE;
                }
                for (int n : a) {
                    tape.append((char) (n >>> 24)).append((char) (n >>> 16 & 255)).append((char) (n >>> 8 & 255))
                            .append((char) (n & 255));
                }
                return tape.length();
            case "end":
                if (a[0] < 0 || a[0] > tape.length()) {
                    return 0;
                }
                tape.setLength(a[0]);
                return 1;
            case "fault":
                return fault;
            case "undo":
                if (mark < 0) {
                    return 0;
                }
                doAllAgain(log.subList(0, mark));
                return 1;
            case "keep":
                image = new ArrayList<>(log);
                return 0;
            case "again":
                if (image == null) {
                    return 0;
                }
                doAllAgain(image);
                return 1;
            default:
                return logged(name, a);
        }
    }

    private void doAllAgain(List<Object[]> calls) {
        List<Object[]> all = new ArrayList<>(calls);
        s = new State();
        for (Object[] call : all) {
            change((String) call[0], (int[]) call[1], (String) call[2]);
        }
        log = all;
        mark = -1;
    }

    private long logged(String name, int[] a) {
        String text = null;
        if (name.equals("act")) {
            text = tape.toString();
            tape = new StringBuilder();
            require(a[0] >= s.week && a[0] <= 500);
            fault = NONE;
            try {
                new Parser(text).text();
            } catch (Fault f) {
                fault = f.at;
                throw argument();
            }
        }
        int week = s.week;
        long answer = change(name, a, text);
        boolean did = false;
        if (name.equals("allot") || name.equals("load") || name.equals("sail")) {
            did = answer != 0;
        } else if (name.equals("give")) {
            did = answer != NONE;
        } else if (name.equals("weeks")) {
            did = s.week > week;
        }
        if (did) {
            mark = log.size();
        }
        log.add(new Object[] {name, a, text});
        return answer;
    }

    private static void require(boolean right) {
        if (!right) {
            throw argument();
        }
    }

    private static void there(boolean is) {
        if (!is) {
            throw index();
        }
    }

    private static boolean in(int n, int least, int most) {
        return n >= least && n <= most;
    }

    private void land(int land) {
        there(in(land, 0, 5));
    }

    private void sort(int sort) {
        there(in(sort, 0, 7));
    }

    private void open() {
        if (s.ended) {
            throw state();
        }
    }

    private void room(int size, int most) {
        if (size >= most) {
            throw support();
        }
    }

    private long change(String name, int[] a, String text) {
        switch (name) {
            case "sort":
                sort(a[0]);
                require(in(a[1], 1, 20) && in(a[2], 0, 50) && in(a[3], 0, 50) && in(a[4], 1, 9));
                s.sorts[a[0]] = Arrays.copyOfRange(a, 1, 5);
                return 0;
            case "price":
                sort(a[0]);
                require(in(a[1], s.week, 500) && in(a[2], 0, 1000));
                return tell(s.prices, HUNDRED, a);
            case "cost":
                sort(a[0]);
                return latest(s.prices, a[0], a[1]);
            case "works":
                require(a[0] >= 0 && (long) a[0] + s.steel <= 1000000 && in(a[1], 0, 1000000));
                s.steel += a[0];
                s.hands = a[1];
                return s.steel;
            case "order":
                sort(a[0]);
                require(in(a[1], 1, 1000));
                room(s.lots.size(), HUNDRED);
                open();
                return newLot(a[0], 0, a[1], 0);
            case "lot":
                return lotAnswer(a[0], a[1]);
            case "act":
                room(s.acts.size(), 10);
                Act act = new Act();
                act.week = a[0];
                act.lines = new Parser(text).text();
                s.acts.add(act);
                return act.lines.size();
            case "ask":
                land(a[0]);
                sort(a[1]);
                require(a[0] > 0 && in(a[2], 1, 1000) && in(a[3], 0, 9999));
                room(s.asks.size(), 60);
                Ask ask = new Ask();
                ask.land = a[0];
                ask.sort = a[1];
                ask.crates = a[2];
                ask.drawn = a[3];
                s.asks.add(ask);
                return s.asks.size() - 1;
            case "weigh":
                return weighed(a[0], a[1]);
            case "allot":
                sort(a[0]);
                open();
                return allotted(a[0]);
            case "label":
                there(in(a[0], 0, s.lots.size() - 1));
                require(in(a[1], 0, 9));
                Lot labelled = s.lots.get(a[0]);
                if (!labelled.lent() || labelled.at(1) == 0 || labelled.label == a[1]) {
                    return 0;
                }
                labelled.label = a[1];
                return 1;
            default:
                return changeBySea(name, a);
        }
    }

    private long changeBySea(String name, int[] a) {
        switch (name) {
            case "ship":
                require(in(a[0], 1, 5000) && in(a[1], 0, 99));
                room(s.ships.size(), 12);
                Ship ship = new Ship();
                ship.hold = a[0];
                ship.luck = a[1];
                s.ships.add(ship);
                return s.ships.size() - 1;
            case "way":
                land(a[0]);
                require(a[0] > 0 && in(a[1], 1, 6));
                s.way[a[0]] = a[1];
                return 0;
            case "risk":
                land(a[0]);
                require(a[0] > 0 && in(a[1], s.week, 500) && in(a[2], 0, 100));
                return tell(s.risks, HUNDRED, a);
            case "load":
                there(in(a[0], 0, s.ships.size() - 1) && in(a[1], 0, s.lots.size() - 1));
                open();
                return loaded(s.ships.get(a[0]), s.lots.get(a[1]), a[2]);
            case "sail":
                there(in(a[0], 0, s.ships.size() - 1));
                land(a[1]);
                open();
                return sailed(s.ships.get(a[0]), a[1]);
            case "led":
                there(in(a[0], 0, s.ships.size() - 1));
                return shipAnswer(s.ships.get(a[0]), a[1]);
            case "need":
                land(a[0]);
                sort(a[1]);
                require(a[0] > 0 && in(a[2], 0, 1000));
                s.need[a[0]][a[1]] = a[2];
                return 0;
            case "weeks":
                require(in(a[0], 0, 60));
                for (int i = 0; i < a[0] && s.week < 500; i++) {
                    week();
                }
                return s.week;
            case "give":
                there(in(a[0], 0, s.lots.size() - 1));
                land(a[2]);
                open();
                return given(a[0], a[1], a[2], a[3] == 1);
            case "back":
                land(a[0]);
                sort(a[1]);
                require(a[0] > 0 && in(a[2], 1, 1000));
                room(s.lots.size(), HUNDRED);
                open();
                int lot = newLot(a[1], a[0], a[2], 3);
                s.lots.get(lot).back = true;
                return lot;
            case "over":
                return ended();
            default:
                return changeOfBooks(name, a);
        }
    }

    private long changeOfBooks(String name, int[] a) {
        switch (name) {
            case "land":
                land(a[0]);
                require(a[0] > 0);
                return landAnswer(a[0], a[1]);
            case "balance":
                land(a[0]);
                require(a[0] > 0);
                if (!in(a[1], 0, 2)) {
                    throw element();
                }
                return balanced(a[0], a[1], a[2]);
            case "returned":
                land(a[0]);
                sort(a[1]);
                require(a[0] > 0 && in(a[2], 0, s.week) && in(a[3], 0, 100000));
                if (s.returns.size() == HUNDRED) {
                    return NONE;
                }
                s.returns.add(new int[] {a[0], a[1], a[2], a[3], a[3]});
                return s.returns.size();
            case "mustBe":
                land(a[0]);
                sort(a[1]);
                require(a[0] > 0 && in(a[2], 0, s.week));
                return mustBe(a[0], a[1], a[2]);
            case "seen":
                land(a[0]);
                sort(a[1]);
                require(a[0] > 0 && in(a[2], 1, 100000));
                return tell(s.seen, 60, a);
            case "whence":
                land(a[0]);
                sort(a[1]);
                require(a[0] > 0);
                return a[2] == 1 ? from(a[1]) : unexplained(a[0], a[1]);
            case "rock":
                land(a[0]);
                require(a[0] > 0 && in(a[1], 1, 500) && in(a[2], 0, 10000) && in(a[3], 0, 1000));
                room(s.bases.size(), 10);
                Base base = new Base();
                base.land = a[0];
                base.from = s.week;
                base.weeks = a[1];
                base.cost = a[2];
                base.yield = a[3];
                s.bases.add(base);
                return s.bases.size() - 1;
            case "net":
                there(in(a[0], 0, s.bases.size() - 1));
                Base b = s.bases.get(a[0]);
                return b.yield * b.yields - b.cost;
            case "tear":
                int first = Math.max(0, s.returns.size() - 6);
                if (a[0] < 0 || first + (long) a[0] >= s.returns.size()) {
                    throw element();
                }
                return s.returns.get(first + a[0])[3] ^= a[1];
            case "check":
                int oldest = Math.max(0, s.returns.size() - 6);
                for (int i = oldest; i < s.returns.size(); i++) {
                    if (s.returns.get(i)[3] != s.returns.get(i)[4]) {
                        return i - oldest;
                    }
                }
                return NONE;
            default:
                return changeOfPlans(name, a);
        }
    }

    private long changeOfPlans(String name, int[] a) {
        switch (name) {
            case "tons":
                land(a[0]);
                require(a[0] > 0 && in(a[1], 0, 100000));
                s.tons[a[0]] = a[1];
                return 0;
            case "hulls":
                return hulls(a[0]);
            case "bestOrders":
                return bestOrders();
            case "page":
                require(in(a[0], -10000, 10000) && in(a[1], -10000, 10000));
                long pages = tell(s.pages, 9, a);
                return pages == NONE ? NONE : pages - 1;
            case "signed":
                return signed(a[0], a[1]);
            case "choice":
                require(in(a[0], 0, 10000) && in(a[1], 0, 4) && in(a[2], 0, 10000) && in(a[3], 0, 10000));
                return tell(s.choices, 8, a);
            case "row":
                require(in(a[0], 0, 2) && in(a[1], 0, 4) && in(a[2], 0, 100000) && in(a[3], 0, 100000)
                        && in(a[4], 0, 100000));
                s.rows.put(a[0] + " " + a[1], a);
                return 0;
            case "lasts":
                return lasts();
            case "cash":
                return cash(a);
            case "count":
                return counted(a[0]);
            default:
                throw new AssertionError("no call " + name);
        }
    }

    private static long tell(List<Told> tellings, int most, int[] n) {
        if (tellings.size() == most) {
            return NONE;
        }
        tellings.add(new Told(n));
        return tellings.size();
    }

    /** Goes back from a WEEK until one is found for which something was told. */
    private static int latest(List<Told> tellings, int of, int week) {
        if (tellings.isEmpty()) {
            return 0;
        }
        for (int w = Math.min(week, 500); w >= 0; w--) {
            for (int i = tellings.size() - 1; i >= 0; i--) {
                if (tellings.get(i).of(of, w)) {
                    return tellings.get(i).n()[2];
                }
            }
        }
        return 0;
    }

    private int newLot(int sort, int land, int crates, int place) {
        Lot lot = new Lot();
        lot.sort = sort;
        lot.land = land;
        for (int i = 0; i < crates; i++) {
            Crate c = new Crate();
            c.place = place;
            lot.crates.add(c);
        }
        s.lots.add(lot);
        return s.lots.size() - 1;
    }

    private long lotAnswer(int number, int what) {
        there(in(number, 0, s.lots.size() - 1));
        Lot l = s.lots.get(number);
        if (in(what, 10, 18)) {
            return l.at(what - 10);
        }
        switch (what) {
            case 0: return l.sort;
            case 1: return l.crates.size();
            case 2: return l.land;
            case 3: return l.back ? 1 : 0;
            case 4: return l.done;
            case 5: return l.begun ? 1 : 0;
            case 6: return l.allotted;
            case 7: return l.label;
            case 8: return l.source;
            case 9: return l.wrong ? 1 : 0;
            default: throw element();
        }
    }

    // ---------------------------------------------------------------- acts and requests

    private List<Line> lines() {
        for (int w = s.week; w >= 0; w--) {
            for (int i = s.acts.size() - 1; i >= 0; i--) {
                if (s.acts.get(i).week == w) {
                    return s.acts.get(i).lines;
                }
            }
        }
        return List.of();
    }

    private Map<String, Long> facts(int land, int sort, int crates, int to) {
        Map<String, Long> f = new HashMap<>();
        f.put("land", (long) land);
        f.put("sort", (long) sort);
        f.put("week", (long) s.week);
        f.put("crates", (long) crates);
        f.put("tons", (long) crates * s.sorts[sort][0]);
        f.put("price", (long) latest(s.prices, sort, s.week));
        f.put("had", (long) s.everByShip[land][sort]);
        f.put("hunger", s.hunger[land]);
        f.put("rocks", leased(land));
        f.put("to", (long) to);
        return f;
    }

    private List<Integer> holding(String word, Map<String, Long> facts) {
        List<Integer> which = new ArrayList<>();
        List<Line> lines = lines();
        for (int i = 0; i < lines.size(); i++) {
            if (lines.get(i).word.equals(word) && lines.get(i).test.holds(facts)) {
                which.add(i);
            }
        }
        return which;
    }

    private long sumOf(List<Integer> which) {
        long sum = 0;
        for (int i : which) {
            sum += lines().get(i).number;
        }
        return sum;
    }

    private int mostOf(List<Integer> which) {
        int most = 0;
        for (int i : which) {
            most = Math.max(most, lines().get(i).number);
        }
        return most;
    }

    private static long first(List<Integer> which) {
        return which.isEmpty() ? NONE : which.get(0);
    }

    private long weighed(int request, int what) {
        there(in(request, 0, s.asks.size() - 1));
        Ask r = s.asks.get(request);
        Map<String, Long> f = facts(r.land, r.sort, r.crates, 0);
        switch (what) {
            case 0: return sumOf(holding("mark", f));
            case 1: return first(holding("mark", f));
            case 2: return first(holding("lend", f));
            case 3: return r.has;
            case 4: return r.crates - r.has;
            case 5: return mostOf(holding("owe", f));
            default: throw element();
        }
    }

    private long allotted(int sort) {
        List<Ask> turn = new ArrayList<>();
        for (Ask r : s.asks) {
            if (r.sort == sort && r.has < r.crates) {
                turn.add(r);
            }
        }
        // the sort is stable, so the numbers decide at last
        turn.sort((a, b) -> {
            long ma = sumOf(holding("mark", facts(a.land, sort, a.crates, 0)));
            long mb = sumOf(holding("mark", facts(b.land, sort, b.crates, 0)));
            return ma != mb ? Long.compare(mb, ma) : Integer.compare(a.drawn, b.drawn);
        });
        long all = 0;
        for (Ask r : turn) {
            List<Lot> stocks = new ArrayList<>();
            int left = 0;
            for (Lot l : s.lots) {
                if (l.land == 0 && l.sort == sort) {
                    stocks.add(l);
                    left += l.at(1);
                }
            }
            int n = Math.min(left, r.crates - r.has);
            Map<String, Long> f = facts(r.land, sort, n, 0);
            if (n == 0 || s.lots.size() == HUNDRED || holding("lend", f).isEmpty()) {
                continue;
            }
            int lack = n;
            for (Lot l : stocks) {
                while (lack > 0 && l.at(1) > 0) {
                    l.crates.remove(l.crates.size() - 1);
                    lack--;
                }
            }
            Lot lot = s.lots.get(newLot(sort, r.land, n, 1));
            lot.allotted = s.week;
            lot.owe = mostOf(holding("owe", f));
            lot.price = latest(s.prices, sort, s.week);
            r.has += n;
            all += n;
        }
        return all;
    }

    private long given(int number, int n, int to, boolean force) {
        Lot lot = s.lots.get(number);
        if (n < 1 || lot.at(3) < n || !lot.lent() || to == 0 || to == lot.land || s.lots.size() == HUNDRED) {
            return NONE;
        }
        boolean may = !holding("give", facts(lot.land, lot.sort, n, to)).isEmpty();
        if (!may && !force) {
            return NONE;
        }
        lot.move(n, 3, 5, null);
        int made = newLot(lot.sort, to, n, 3);
        s.lots.get(made).source = number;
        s.lots.get(made).wrong = !may;
        s.everGiven[to][lot.sort] += n;
        return made;
    }

    // ---------------------------------------------------------------- ships

    private List<Lot> cargo(Ship ship) {
        List<Lot> lots = new ArrayList<>();
        for (Lot l : s.lots) {
            if (l.aboard(ship) > 0) {
                lots.add(l);
            }
        }
        return lots;
    }

    private long tons(Ship ship) {
        long tons = 0;
        for (Lot l : cargo(ship)) {
            tons += (long) l.aboard(ship) * s.sorts[l.sort][0];
        }
        return tons;
    }

    private long loaded(Ship ship, Lot lot, int n) {
        List<Lot> there = cargo(ship);
        int place;
        if (ship.state == 0 && lot.lent()) {
            place = 1;
        } else if (ship.state == 2 && lot.back && lot.land == ship.land) {
            place = 3;
        } else {
            return 0;
        }
        boolean may = n > 0 && lot.at(place) >= n && tons(ship) + (long) n * s.sorts[lot.sort][0] <= ship.hold;
        for (Lot l : there) {
            may &= l.land == lot.land;
        }
        may &= there.contains(lot) || there.size() < 8;
        if (may) {
            lot.move(n, place, 2, ship);
        }
        return may ? 1 : 0;
    }

    private long sailed(Ship ship, int land) {
        if (ship.state == 0 && land > 0) {
            for (Lot l : cargo(ship)) {
                if (l.land != land) {
                    return 0;
                }
            }
            ship.state = 1;
            ship.land = land;
            ship.left = s.way[land];
            return 1;
        }
        if (ship.state == 2 && land == 0) {
            ship.state = 3;
            ship.left = s.way[ship.land];
            return 1;
        }
        return 0;
    }

    private long shipAnswer(Ship ship, int what) {
        switch (what) {
            case 0: return ship.state;
            case 1: return ship.state == 0 ? 0 : ship.land;
            case 2: return ship.state == 1 || ship.state == 3 ? ship.left : 0;
            case 3: return tons(ship);
            case 4: return ship.lost;
            case 5: return cargo(ship).size();
            default: throw element();
        }
    }

    private void unload(Ship ship, int place) {
        for (Lot l : s.lots) {
            for (Crate c : l.crates) {
                if (c.ship == ship) {
                    c.ship = null;
                    c.place = place;
                }
            }
        }
    }

    // ---------------------------------------------------------------- weeks

    private void week() {
        int[][] now = new int[6][8];
        for (Lot l : s.lots) {
            if (l.lent()) {
                now[l.land][l.sort] += l.at(3);
            }
        }
        s.ends.add(now);
        s.week++;
        if (s.ended) {
            return;
        }
        for (Lot l : s.lots) {
            if (l.land == 0 && !l.begun && s.steel >= l.crates.size() * s.sorts[l.sort][1]) {
                s.steel -= l.crates.size() * s.sorts[l.sort][1];
                l.begun = true;
            }
        }
        int hands = s.hands;
        for (Lot l : s.lots) {
            int cost = l.crates.size() * s.sorts[l.sort][2];
            if (l.begun && l.at(0) > 0 && cost <= hands) {
                hands -= cost;
                l.done++;
                if (l.done >= s.sorts[l.sort][3]) {
                    l.move(1000, 0, 1, null);
                }
            }
        }
        for (Ship ship : s.ships) {
            sea(ship);
        }
        for (int land = 1; land <= 5; land++) {
            for (int sort = 0; sort < 8; sort++) {
                use(land, sort);
            }
        }
        for (int land = 1; land <= 5; land++) {
            s.mood[land] += Integer.signum(-s.mood[land]);
        }
        for (Base b : s.bases) {
            if (s.week > b.from && s.week <= b.from + b.weeks) {
                b.yields++;
            }
        }
    }

    private void sea(Ship ship) {
        if (ship.state != 1 && ship.state != 3) {
            return;
        }
        if ((ship.luck + 37 * s.week) % 100 < latest(s.risks, ship.land, s.week)) {
            unload(ship, 6);
            ship.state = 4;
            ship.lost = s.week;
            return;
        }
        ship.left--;
        if (ship.left == 0 && ship.state == 3) {
            unload(ship, 7);
            ship.state = 0;
        } else if (ship.left == 0) {
            for (Lot l : cargo(ship)) {
                s.everByShip[ship.land][l.sort] += l.aboard(ship);
                s.mood[ship.land] = Math.max(-100, s.mood[ship.land] - l.label);
            }
            unload(ship, 3);
            ship.state = 2;
        }
    }

    private void use(int land, int sort) {
        int need = s.need[land][sort];
        int may = s.mood[land] < 0 ? need / 2 : need;
        for (Lot l : s.lots) {
            if (l.land == land && l.lent() && l.sort == sort) {
                for (Crate c : l.crates) {
                    if (c.place == 3 && may > 0) {
                        c.place = 4;
                        may--;
                        need--;
                    }
                }
            }
        }
        s.hunger[land] += need;
    }

    private long ended() {
        if (s.ended) {
            return NONE;
        }
        s.ended = true;
        long left = 0;
        for (Lot l : s.lots) {
            left += l.at(3);
            l.move(1000, 3, 8, null);
        }
        return left;
    }

    // ---------------------------------------------------------------- books

    private long leased(int land) {
        long n = 0;
        for (Base b : s.bases) {
            n += b.land == land && s.week < b.from + b.weeks ? 1 : 0;
        }
        return n;
    }

    private long there(int land, int sort, int place) {
        long n = 0;
        for (Lot l : s.lots) {
            n += l.land == land && l.lent() && (sort < 0 || l.sort == sort) ? l.at(place) : 0;
        }
        return n;
    }

    private long mustBe(int land, int sort, int week) {
        return week == s.week ? there(land, sort, 3) : s.ends.get(week)[land][sort];
    }

    private int[] latestReturn(int land, int sort) {
        for (int w = s.week; w >= 0; w--) {
            for (int i = s.returns.size() - 1; i >= 0; i--) {
                int[] r = s.returns.get(i);
                if (r[0] == land && r[1] == sort && r[2] == w) {
                    return r;
                }
            }
        }
        return null;
    }

    private long landAnswer(int land, int what) {
        long sure = 0;
        long more = 0;
        for (int sort = 0; sort < 8; sort++) {
            int[] r = latestReturn(land, sort);
            if (r == null) {
                more += there(land, sort, 3);
            } else {
                sure += Math.max(0, mustBe(land, sort, r[2]) - r[3]);
            }
        }
        switch (what) {
            case 0: return s.hunger[land];
            case 1: return s.mood[land];
            case 2: return owed(land);
            case 3: return there(land, -1, 3);
            case 4: return there(land, -1, 6);
            case 5: return leased(land);
            case 6: return sure;
            case 7: return sure + more;
            default: throw element();
        }
    }

    private long owed(int land) {
        long sum = 0;
        for (Lot l : s.lots) {
            if (l.land == land && l.lent() && l.allotted >= 0) {
                long crates = l.crates.size() - l.at(7) - l.at(8);
                sum += crates * l.price * l.owe / 100;
            }
        }
        return sum;
    }

    private long balanced(int land, int what, int week) {
        long sum = 0;
        for (int sort = 0; sort < 8; sort++) {
            long crates = s.everByShip[land][sort];
            for (Lot l : s.lots) {
                crates -= l.back && l.land == land && l.sort == sort ? l.at(7) : 0;
            }
            sum += crates * (what == 0 ? latest(s.prices, sort, week) : s.sorts[sort][what == 1 ? 2 : 0]);
        }
        return sum;
    }

    private long unexplained(int land, int sort) {
        long most = 0;
        for (Told t : s.seen) {
            if (t.of(land, sort)) {
                most = Math.max(most, t.n()[2]);
            }
        }
        return Math.max(0, most - s.everByShip[land][sort] - s.everGiven[land][sort]);
    }

    private long from(int sort) {
        long bits = 0;
        for (int land = 1; land <= 5; land++) {
            bits |= s.everByShip[land][sort] > 0 ? 1L << land : 0;
        }
        return bits;
    }

    // ---------------------------------------------------------------- plans

    private long hulls(int asked) {
        List<Integer> ships = new ArrayList<>();
        for (int i = 0; i < s.ships.size() && ships.size() < 6; i++) {
            if (s.ships.get(i).state == 0) {
                ships.add(i);
            }
        }
        int ways = 1;
        for (int i = 0; i < ships.size(); i++) {
            ways *= 6;
        }
        long least = NONE;
        int which = -1;
        int[] risk = new int[6];
        for (int land = 1; land <= 5; land++) {
            risk[land] = latest(s.risks, land, s.week + 1);
        }
        for (int way = 0; way < ways; way++) {
            long lost = 0;
            int[] hold = new int[6];
            int rest = way;
            for (int i = ships.size() - 1; i >= 0; i--) {
                Ship ship = s.ships.get(ships.get(i));
                int land = rest % 6;
                rest /= 6;
                hold[land] += ship.hold;
                lost += (long) ship.hold * risk[land];
            }
            boolean enough = true;
            for (int land = 1; land <= 5; land++) {
                enough &= hold[land] >= s.tons[land];
            }
            if (enough && (least == NONE || lost < least)) {
                least = lost;
                which = way;
            }
        }
        if (asked == NONE || least == NONE) {
            return least;
        }
        int at = ships.indexOf(asked);
        if (at < 0) {
            return NONE;
        }
        for (int i = ships.size() - 1; i > at; i--) {
            which /= 6;
        }
        return which % 6;
    }

    private long bestOrders() {
        List<Lot> orders = new ArrayList<>();
        for (Lot l : s.lots) {
            if (l.land == 0 && !l.begun && orders.size() < 8) {
                orders.add(l);
            }
        }
        long best = 0;
        long[] bestOf = {0, 0};
        for (int bits = 0; bits < 256; bits++) {
            long steel = 0;
            long hands = 0;
            long worth = 0;
            boolean real = true;
            for (int i = 0; i < 8; i++) {
                if ((bits & 1 << i) != 0) {
                    real &= i < orders.size();
                    Lot l = i < orders.size() ? orders.get(i) : new Lot();
                    steel += (long) l.crates.size() * s.sorts[l.sort][1];
                    hands += (long) l.crates.size() * s.sorts[l.sort][2];
                    worth += (long) l.crates.size() * latest(s.prices, l.sort, s.week);
                }
            }
            if (real && steel <= s.steel && hands <= s.hands
                    && (worth > bestOf[0] || worth == bestOf[0] && steel < bestOf[1])) {
                best = bits;
                bestOf = new long[] {worth, steel};
            }
        }
        return best;
    }

    private long signed(int maker, int other) {
        long best = NONE;
        long[] bestOf = null;
        for (int bits = 0; bits < 1 << s.pages.size(); bits++) {
            long[] of = {0, 0};
            for (int i = 0; i < s.pages.size(); i++) {
                if ((bits & 1 << i) != 0) {
                    of[0] += s.pages.get(i).n()[0];
                    of[1] += s.pages.get(i).n()[1];
                }
            }
            if (of[0] >= maker && of[1] >= other
                    && (bestOf == null || of[0] > bestOf[0] || of[0] == bestOf[0] && of[1] > bestOf[1])) {
                best = bits;
                bestOf = of;
            }
        }
        return best;
    }

    private long lasts() {
        long best = NONE;
        long[] bestOf = null;
        for (int bits = 0; bits < 1 << s.choices.size(); bits++) {
            long all = 0;
            boolean lasts = true;
            for (int year = 0; year < 5; year++) {
                long[] sums = new long[3];
                for (int i = 0; i < s.choices.size(); i++) {
                    int[] c = s.choices.get(i).n();
                    if ((bits & 1 << i) != 0 && year >= c[1]) {
                        sums[0] += c[0];
                        sums[1] += c[2];
                        sums[2] += c[3];
                    }
                }
                all += sums[0];
                for (int row = 0; row < 3; row++) {
                    int[] r = s.rows.getOrDefault(row + " " + year, new int[5]);
                    lasts &= sums[0] <= r[2] && sums[1] >= r[3] && sums[2] >= r[4];
                }
            }
            long few = Integer.bitCount(bits);
            if (lasts && (bestOf == null || all < bestOf[0] || all == bestOf[0] && few < bestOf[1])) {
                best = bits;
                bestOf = new long[] {all, few};
            }
        }
        return best;
    }

    private long cash(int[] coin) {
        for (int n : coin) {
            require(n >= 0);
        }
        long[] left = new long[6];
        for (int i = 0; i < 5; i++) {
            left[i + 1] = coin[i];
        }
        for (int i = 0; i < s.lots.size(); i++) {
            Lot l = s.lots.get(i);
            if (l.lent() && l.allotted >= 0) {
                left[l.land] -= l.crates.size() * l.price;
                if (left[l.land] < 0) {
                    return i;
                }
            }
        }
        return NONE;
    }

    private long counted(int what) {
        if (in(what, 12, 20)) {
            long n = 0;
            for (Lot l : s.lots) {
                n += l.at(what - 12);
            }
            return n;
        }
        long n = 0;
        switch (what) {
            case 0: return s.week;
            case 1: return s.lots.size();
            case 2: return s.steel;
            case 3: return s.acts.size();
            case 4: return lines().size();
            case 5:
                for (Ask r : s.asks) {
                    n += r.has < r.crates ? 1 : 0;
                }
                return n;
            case 6: return s.ships.size();
            case 7:
                for (Ship ship : s.ships) {
                    n += ship.state == 4 ? 1 : 0;
                }
                return n;
            case 8:
                for (Lot l : s.lots) {
                    n += l.wrong ? 1 : 0;
                }
                return n;
            case 9: return s.bases.size();
            case 10:
                for (Base b : s.bases) {
                    n += (long) b.yield * b.yields;
                }
                return n;
            case 11: return s.ended ? 1 : 0;
            default: return NONE;
        }
    }
}
