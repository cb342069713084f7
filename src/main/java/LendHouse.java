import java.util.Arrays;
import java.util.NoSuchElementException;

/** A house that lends goods to lands at war; ../shared/DOC.md says what it must do. */
public final class LendHouse {
    public static final int NONE = -1;

    private static final int LAST_WEEK = 500;
    private static final int LANDS = 6;
    private static final int SORTS = 8;
    private static final int MOST_CRATES = 1000;
    private static final int MOST_STEEL = 1000000;
    private static final int MOST_TOLD = 100000;
    private static final int FED_BYTES = 20;
    private static final int LATEST_ROWS = 6;

    // PLACES of crates
    private static final int PLACES = 9;
    private static final int WORK = 0;
    private static final int PORT = 1;
    private static final int ABOARD = 2;
    private static final int LANDED = 3;
    private static final int USED = 4;
    private static final int GIVEN = 5;
    private static final int LOST = 6;
    private static final int RETURNED = 7;
    private static final int LEFT = 8;

    // columns of a LOT: the first nineteen in the order in which lot() counts them
    private static final int LOT_SORT = 0;
    private static final int LOT_CRATES = 1;
    private static final int LOT_LAND = 2;
    private static final int LOT_BACK = 3;
    private static final int LOT_DONE = 4;
    private static final int LOT_BEGUN = 5;
    private static final int LOT_ALLOTTED = 6;
    private static final int LOT_LABEL = 7;
    private static final int LOT_SOURCE = 8;
    private static final int LOT_WRONG = 9;
    private static final int LOT_PLACE = 10;
    private static final int LOT_OWE = LOT_PLACE + PLACES;
    private static final int LOT_PRICE = LOT_OWE + 1;
    private static final int LOT_CELLS = LOT_PRICE + 1;

    // columns of a SORT
    private static final int SORT_TONS = 0;
    private static final int SORT_STEEL = 1;
    private static final int SORT_HANDS = 2;
    private static final int SORT_WEEKS = 3;
    private static final int SORT_CELLS = 4;

    // columns of a telling of a PRICE (of a SORT) or a RISK (of a LAND)
    private static final int TOLD_OF = 0;
    private static final int TOLD_WEEK = 1;
    private static final int TOLD_NUMBER = 2;
    private static final int TOLD_CELLS = 3;

    // columns of a REQUEST
    private static final int ASK_LAND = 0;
    private static final int ASK_SORT = 1;
    private static final int ASK_CRATES = 2;
    private static final int ASK_DRAWN = 3;
    private static final int ASK_HAS = 4;
    private static final int ASK_CELLS = 5;

    // columns of a SHIP: behind SHIP_CARGO stand a LOT and its crates by turns
    private static final int SHIP_HOLD = 0;
    private static final int SHIP_LUCK = 1;
    private static final int SHIP_STATE = 2;
    private static final int SHIP_LAND = 3;
    private static final int SHIP_WEEKS = 4;
    private static final int SHIP_LOST = 5;
    private static final int SHIP_LOTS = 6;
    private static final int SHIP_CARGO = 7;
    private static final int CARGO_LOTS = 8;
    private static final int SHIP_CELLS = SHIP_CARGO + 2 * CARGO_LOTS;

    // STATES of a SHIP
    private static final int AT_HOME = 0;
    private static final int OUTWARD = 1;
    private static final int ABROAD = 2;
    private static final int HOMEWARD = 3;
    private static final int SUNK = 4;

    // columns of a LAND
    private static final int LAND_HUNGER = 0;
    private static final int LAND_MOOD = 1;
    private static final int LAND_WAY = 2;
    private static final int LAND_TONS = 3;
    private static final int LAND_CELLS = 4;

    // columns of a SORT in a LAND
    private static final int TRADE_NEED = 0;
    private static final int TRADE_LANDED = 1;
    private static final int TRADE_GIVEN = 2;
    private static final int TRADE_CELLS = 3;

    // columns of a RETURN, and (but for the WEEK and what was told) of a thing SEEN
    private static final int ROW_LAND = 0;
    private static final int ROW_SORT = 1;
    private static final int ROW_CRATES = 2;
    private static final int ROW_WEEK = 3;
    private static final int ROW_TOLD = 4;
    private static final int ROW_CELLS = 5;
    private static final int SEEN_CELLS = 3;

    // columns of a BASE
    private static final int BASE_LAND = 0;
    private static final int BASE_FROM = 1;
    private static final int BASE_WEEKS = 2;
    private static final int BASE_COST = 3;
    private static final int BASE_YIELD = 4;
    private static final int BASE_BROUGHT = 5;
    private static final int BASE_CELLS = 6;

    // columns of a PAGE
    private static final int PAGE_MAKER = 0;
    private static final int PAGE_OTHER = 1;
    private static final int PAGE_CELLS = 2;

    // columns of a CHOICE, and of a YEAR of a ROW
    private static final int YEARS = 5;
    private static final int ROWS = 3;
    private static final int CHOICE_COST = 0;
    private static final int CHOICE_GOODS = 1;
    private static final int CHOICE_FOOD = 2;
    private static final int CHOICE_YEAR = 3;
    private static final int CHOICE_CELLS = 4;
    private static final int YEAR_STEEL = 0;
    private static final int YEAR_GOODS = 1;
    private static final int YEAR_FOOD = 2;
    private static final int YEAR_CELLS = 3;

    // words of an ACT, in the order of wordNumbered()
    private static final int WORDS = 18;
    private static final int LEND = 0;
    private static final int MARK = 1;
    private static final int OWE = 2;
    private static final int GIVE = 3;
    private static final int IF = 4;
    private static final int OR = 5;
    private static final int AND = 6;
    private static final int NOT = 7;
    private static final int FIRST_FACT = 8;

    // FACTS, by their place behind FIRST_FACT
    private static final int FACTS = 10;
    private static final int FACT_LAND = 0;
    private static final int FACT_SORT = 1;
    private static final int FACT_WEEK = 2;
    private static final int FACT_CRATES = 3;
    private static final int FACT_TONS = 4;
    private static final int FACT_PRICE = 5;
    private static final int FACT_HAD = 6;
    private static final int FACT_HUNGER = 7;
    private static final int FACT_ROCKS = 8;
    private static final int FACT_TO = 9;

    // what stands in the code of an ACT: a number (0 or more), a FACT (FACT_CODE less its place) or one of these
    private static final int CODE_PLUS = -1;
    private static final int CODE_LESS = -2;
    private static final int CODE_MORE = -3;
    private static final int CODE_NOT = -4;
    private static final int CODE_AND = -5;
    private static final int CODE_OR = -6;
    private static final int FACT_CODE = -10;

    private final Tape tape;
    private final Reader reader;
    private final Court court;
    private final Hulls fleet;
    private final House now;
    private final House before;
    private final House image;
    private final Books books;
    private final Books imageBooks;
    private boolean undoable;
    private boolean imaged;
    private int faultAt;

    public LendHouse() {
        tape = new Tape();
        reader = new Reader(tape);
        court = new Court();
        fleet = new Hulls();
        now = new House();
        before = new House();
        image = new House();
        books = new Books();
        imageBooks = new Books();
        faultAt = NONE;
    }

    // ---- the TAPE and the ACTS

    public int feed(int a, int b, int c, int d, int e) {
        if (tape.size > Tape.MOST_BYTES - FED_BYTES) {
            return NONE;
        }
        tape.put(a);
        tape.put(b);
        tape.put(c);
        tape.put(d);
        tape.put(e);
        return tape.size;
    }

    public boolean end(int n) {
        if (n < 0 || n > tape.size) {
            return false;
        }
        tape.size = n;
        return true;
    }

    public int act(int week) throws IllegalArgumentException, UnsupportedOperationException {
        tape.useUp();
        if (outside(week, now.week, LAST_WEEK)) {
            throw new IllegalArgumentException("no such week for an act");
        }
        reader.read();
        faultAt = reader.wrong;
        if (faultAt != NONE) {
            throw new IllegalArgumentException("the text is wrong");
        }
        if (now.actCount >= House.MOST_ACTS) {
            throw new UnsupportedOperationException("no more acts");
        }
        Act read = new Act(week, reader);
        now.addAct(read);
        return read.lines;
    }

    public int fault() {
        return faultAt;
    }

    // ---- SORTS, PRICES and the WORKS

    public void sort(int sort, int tons, int steel, int hands, int weeks)
            throws IndexOutOfBoundsException, IllegalArgumentException {
        testSort(sort);
        if (outside(tons, 1, 20) || outside(steel, 0, 50) || outside(hands, 0, 50) || outside(weeks, 1, 9)) {
            throw new IllegalArgumentException("no such number of a sort");
        }
        now.sorts.set(sort, SORT_TONS, tons);
        now.sorts.set(sort, SORT_STEEL, steel);
        now.sorts.set(sort, SORT_HANDS, hands);
        now.sorts.set(sort, SORT_WEEKS, weeks);
    }

    public int price(int sort, int week, int n) throws IndexOutOfBoundsException, IllegalArgumentException {
        testSort(sort);
        if (outside(week, now.week, LAST_WEEK) || outside(n, 0, 1000)) {
            throw new IllegalArgumentException("no such week or price");
        }
        return House.tell(now.prices, sort, week, n);
    }

    public int cost(int sort, int week) throws IndexOutOfBoundsException {
        testSort(sort);
        return now.priceIn(sort, week);
    }

    public int works(int steel, int hands) throws IllegalArgumentException {
        if (outside(steel, 0, MOST_STEEL - now.steel) || outside(hands, 0, MOST_STEEL)) {
            throw new IllegalArgumentException("no such steel or hands");
        }
        now.steel += steel;
        now.hands = hands;
        return now.steel;
    }

    public int order(int sort, int crates)
            throws IndexOutOfBoundsException, IllegalArgumentException, UnsupportedOperationException,
            IllegalStateException {
        testSort(sort);
        testCrates(crates);
        testRoomForLot();
        testNotEnded();
        return now.addLot(sort, crates, 0, WORK);
    }

    public int lot(int lot, int what) throws IndexOutOfBoundsException, NoSuchElementException {
        testLot(lot);
        if (outside(what, 0, LOT_PLACE + PLACES - 1)) {
            throw new NoSuchElementException("no such thing of a lot");
        }
        return now.lots.get(lot, what);
    }

    // ---- REQUESTS and LOTS

    public int ask(int land, int sort, int crates, int drawn)
            throws IndexOutOfBoundsException, IllegalArgumentException, UnsupportedOperationException {
        testLand(land);
        testSort(sort);
        testAbroad(land);
        testCrates(crates);
        if (outside(drawn, 0, 9999)) {
            throw new IllegalArgumentException("no such drawn number");
        }
        if (now.requests.full()) {
            throw new UnsupportedOperationException("no more requests");
        }
        int request = now.requests.add();
        now.requests.set(request, ASK_LAND, land);
        now.requests.set(request, ASK_SORT, sort);
        now.requests.set(request, ASK_CRATES, crates);
        now.requests.set(request, ASK_DRAWN, drawn);
        return request;
    }

    public int weigh(int request, int what) throws IndexOutOfBoundsException, NoSuchElementException {
        if (!now.requests.has(request)) {
            throw new IndexOutOfBoundsException("no such request");
        }
        if (outside(what, 0, 5)) {
            throw new NoSuchElementException("no such thing of a request");
        }
        if (what == 3) {
            return now.requests.get(request, ASK_HAS);
        }
        if (what == 4) {
            return now.lackOf(request);
        }
        court.hear(now, request, now.requests.get(request, ASK_CRATES));
        return weighed(what);
    }

    private int weighed(int what) {
        switch (what) {
            case 0:
                return court.sumOfMarks();
            case 1:
                return court.why(MARK);
            case 2:
                return court.why(LEND);
            default:
                return court.greatestOwe();
        }
    }

    public int allot(int sort) throws IndexOutOfBoundsException, IllegalStateException {
        testSort(sort);
        testNotEnded();
        court.call(now, sort);
        int left = now.stockInPort(sort);
        int lent = 0;
        for (int turn = 0; turn < House.MOST_REQUESTS && left > 0 && !now.lots.full(); turn++) {
            int request = court.nextCalled(now);
            if (request == NONE) {
                break;
            }
            int crates = Math.min(left, now.lackOf(request));
            court.hear(now, request, crates);
            if (court.why(LEND) != NONE) {
                if (lent == 0) {
                    remember();
                }
                now.lend(request, crates, court.greatestOwe());
                left -= crates;
                lent += crates;
            }
        }
        return lent;
    }

    public boolean label(int lot, int n) throws IndexOutOfBoundsException, IllegalArgumentException {
        testLot(lot);
        if (outside(n, 0, 9)) {
            throw new IllegalArgumentException("no such label");
        }
        if (!now.isLent(lot) || now.crates(lot, PORT) == 0 || now.lots.get(lot, LOT_LABEL) == n) {
            return false;
        }
        now.lots.set(lot, LOT_LABEL, n);
        return true;
    }

    public int give(int lot, int n, int land, boolean force) throws IndexOutOfBoundsException, IllegalStateException {
        testLot(lot);
        testLand(land);
        testNotEnded();
        int giver = now.lots.get(lot, LOT_LAND);
        if (!now.isLent(lot) || outside(n, 1, now.crates(lot, LANDED)) || land == 0 || land == giver
                || now.lots.full()) {
            return NONE;
        }
        court.gather(now, giver, now.lots.get(lot, LOT_SORT), n, land);
        boolean lawful = court.why(GIVE) != NONE;
        if (!lawful && !force) {
            return NONE;
        }
        remember();
        return now.giveOn(lot, n, land, !lawful);
    }

    public int back(int land, int sort, int crates)
            throws IndexOutOfBoundsException, IllegalArgumentException, UnsupportedOperationException,
            IllegalStateException {
        testLand(land);
        testSort(sort);
        testAbroad(land);
        testCrates(crates);
        testRoomForLot();
        testNotEnded();
        int lot = now.addLot(sort, crates, land, LANDED);
        now.lots.set(lot, LOT_BACK, 1);
        return lot;
    }

    // ---- SHIPS and ROUTES

    public int ship(int hold, int luck) throws IllegalArgumentException, UnsupportedOperationException {
        if (outside(hold, 1, 5000) || outside(luck, 0, 99)) {
            throw new IllegalArgumentException("no such hold or luck");
        }
        if (now.ships.full()) {
            throw new UnsupportedOperationException("no more ships");
        }
        int ship = now.ships.add();
        now.ships.set(ship, SHIP_HOLD, hold);
        now.ships.set(ship, SHIP_LUCK, luck);
        now.ships.set(ship, SHIP_LOST, NONE);
        return ship;
    }

    public void way(int land, int weeks) throws IndexOutOfBoundsException, IllegalArgumentException {
        testLand(land);
        testAbroad(land);
        if (outside(weeks, 1, 6)) {
            throw new IllegalArgumentException("no such way");
        }
        now.lands.set(land, LAND_WAY, weeks);
    }

    public int risk(int land, int week, int n) throws IndexOutOfBoundsException, IllegalArgumentException {
        testLand(land);
        testAbroad(land);
        if (outside(week, now.week, LAST_WEEK) || outside(n, 0, 100)) {
            throw new IllegalArgumentException("no such week or risk");
        }
        return House.tell(now.risks, land, week, n);
    }

    public boolean load(int ship, int lot, int n) throws IndexOutOfBoundsException, IllegalStateException {
        testShip(ship);
        testLot(lot);
        testNotEnded();
        if (!now.mayLoad(ship, lot, n)) {
            return false;
        }
        remember();
        now.putAboard(ship, lot, n);
        return true;
    }

    public boolean sail(int ship, int land) throws IndexOutOfBoundsException, IllegalStateException {
        testShip(ship);
        testLand(land);
        testNotEnded();
        if (!now.maySail(ship, land)) {
            return false;
        }
        remember();
        now.putToSea(ship, land);
        return true;
    }

    public int led(int ship, int what) throws IndexOutOfBoundsException, NoSuchElementException {
        testShip(ship);
        switch (what) {
            case 0:
                return now.ships.get(ship, SHIP_STATE);
            case 1:
                return now.ships.get(ship, SHIP_LAND);
            case 2:
                return now.ships.get(ship, SHIP_WEEKS);
            case 3:
                return now.tonsAboard(ship);
            case 4:
                return now.ships.get(ship, SHIP_LOST);
            case 5:
                return now.ships.get(ship, SHIP_LOTS);
            default:
                throw new NoSuchElementException("no such thing of a ship");
        }
    }

    // ---- WEEKS and LANDS

    public void need(int land, int sort, int n) throws IndexOutOfBoundsException, IllegalArgumentException {
        testLand(land);
        testSort(sort);
        testAbroad(land);
        if (outside(n, 0, 1000)) {
            throw new IllegalArgumentException("no such need");
        }
        now.trade.set(House.tradeRow(land, sort), TRADE_NEED, n);
    }

    public int weeks(int n) throws IllegalArgumentException {
        if (outside(n, 0, 60)) {
            throw new IllegalArgumentException("no such number of weeks");
        }
        if (n > 0 && now.week < LAST_WEEK) {
            remember();
        }
        for (int i = 0; i < n && now.week < LAST_WEEK; i++) {
            books.write(now);
            Turn.pass(now);
        }
        return now.week;
    }

    public long land(int land, int what)
            throws IndexOutOfBoundsException, IllegalArgumentException, NoSuchElementException {
        testLand(land);
        testAbroad(land);
        switch (what) {
            case 0:
                return now.lands.get(land, LAND_HUNGER);
            case 1:
                return now.lands.get(land, LAND_MOOD);
            case 2:
                return Ledger.owed(now, land);
            case 3:
                return Ledger.lentAt(now, land, LANDED);
            case 4:
                return Ledger.lentAt(now, land, LOST);
            case 5:
                return now.basesOf(land);
            case 6:
                return Ledger.sure(now, books, land);
            case 7:
                return Ledger.sure(now, books, land) + Ledger.landedWithoutReturn(now, land);
            default:
                throw new NoSuchElementException("no such thing of a land");
        }
    }

    public long balance(int land, int what, int week)
            throws IndexOutOfBoundsException, IllegalArgumentException, NoSuchElementException {
        testLand(land);
        testAbroad(land);
        if (outside(what, 0, 2)) {
            throw new NoSuchElementException("no such balance");
        }
        return Ledger.balanceBy(now, land, what, week);
    }

    public int over() {
        if (now.ended) {
            return NONE;
        }
        return now.close();
    }

    // ---- RETURNS and things SEEN

    public int returned(int land, int sort, int week, int crates)
            throws IndexOutOfBoundsException, IllegalArgumentException {
        testLand(land);
        testSort(sort);
        testAbroad(land);
        if (outside(week, 0, now.week) || outside(crates, 0, MOST_TOLD)) {
            throw new IllegalArgumentException("no such week or crates");
        }
        if (now.returns.full()) {
            return NONE;
        }
        int row = now.returns.add();
        now.returns.set(row, ROW_LAND, land);
        now.returns.set(row, ROW_SORT, sort);
        now.returns.set(row, ROW_CRATES, crates);
        now.returns.set(row, ROW_WEEK, week);
        now.returns.set(row, ROW_TOLD, crates);
        return now.returns.size;
    }

    public int mustBe(int land, int sort, int week) throws IndexOutOfBoundsException, IllegalArgumentException {
        testLand(land);
        testSort(sort);
        testAbroad(land);
        if (outside(week, 0, now.week)) {
            throw new IllegalArgumentException("no such week");
        }
        return Ledger.landedAtEnd(now, books, land, sort, week);
    }

    public int seen(int land, int sort, int crates) throws IndexOutOfBoundsException, IllegalArgumentException {
        testLand(land);
        testSort(sort);
        testAbroad(land);
        if (outside(crates, 1, MOST_TOLD)) {
            throw new IllegalArgumentException("no such crates");
        }
        if (now.sightings.full()) {
            return NONE;
        }
        int row = now.sightings.add();
        now.sightings.set(row, ROW_LAND, land);
        now.sightings.set(row, ROW_SORT, sort);
        now.sightings.set(row, ROW_CRATES, crates);
        return now.sightings.size;
    }

    public int whence(int land, int sort, boolean from) throws IndexOutOfBoundsException, IllegalArgumentException {
        testLand(land);
        testSort(sort);
        testAbroad(land);
        return from ? Ledger.landsWith(now, sort) : Ledger.unexplained(now, land, sort);
    }

    public int tear(int i, int mask) throws NoSuchElementException {
        int rows = Math.min(LATEST_ROWS, now.returns.size);
        if (outside(i, 0, rows - 1)) {
            throw new NoSuchElementException("no such row");
        }
        int row = now.returns.size - rows + i;
        int torn = now.returns.get(row, ROW_CRATES) ^ mask;
        now.returns.set(row, ROW_CRATES, torn);
        return torn;
    }

    public int check() {
        int rows = Math.min(LATEST_ROWS, now.returns.size);
        for (int i = 0; i < rows; i++) {
            int row = now.returns.size - rows + i;
            if (now.returns.get(row, ROW_CRATES) != now.returns.get(row, ROW_TOLD)) {
                return i;
            }
        }
        return NONE;
    }

    // ---- BASES

    public int rock(int land, int weeks, int cost, int yield)
            throws IndexOutOfBoundsException, IllegalArgumentException, UnsupportedOperationException {
        testLand(land);
        testAbroad(land);
        if (outside(weeks, 1, 500) || outside(cost, 0, 10000) || outside(yield, 0, 1000)) {
            throw new IllegalArgumentException("no such number of a base");
        }
        if (now.bases.full()) {
            throw new UnsupportedOperationException("no more bases");
        }
        int base = now.bases.add();
        now.bases.set(base, BASE_LAND, land);
        now.bases.set(base, BASE_FROM, now.week);
        now.bases.set(base, BASE_WEEKS, weeks);
        now.bases.set(base, BASE_COST, cost);
        now.bases.set(base, BASE_YIELD, yield);
        return base;
    }

    public int net(int base) throws IndexOutOfBoundsException {
        if (!now.bases.has(base)) {
            throw new IndexOutOfBoundsException("no such base");
        }
        return now.bases.get(base, BASE_BROUGHT) - now.bases.get(base, BASE_COST);
    }

    // ---- PLANS

    public void tons(int land, int n) throws IndexOutOfBoundsException, IllegalArgumentException {
        testLand(land);
        testAbroad(land);
        if (outside(n, 0, MOST_TOLD)) {
            throw new IllegalArgumentException("no such tons");
        }
        now.lands.set(land, LAND_TONS, n);
    }

    public int hulls(int ship) {
        fleet.plan(now);
        return ship == NONE ? fleet.leastLost() : fleet.landOf(ship);
    }

    public int bestOrders() {
        return Plans.bestOrdersOf(now);
    }

    public int page(int maker, int other) throws IllegalArgumentException {
        if (outside(maker, -10000, 10000) || outside(other, -10000, 10000)) {
            throw new IllegalArgumentException("no such worth of a page");
        }
        int page = now.pages.add();
        now.pages.set(page, PAGE_MAKER, maker);
        now.pages.set(page, PAGE_OTHER, other);
        return page;
    }

    public int signed(int maker, int other) {
        return Plans.pagesSigned(now.pages, maker, other);
    }

    public int choice(int cost, int year, int goods, int food) throws IllegalArgumentException {
        if (outside(cost, 0, 10000) || outside(year, 0, YEARS - 1) || outside(goods, 0, 10000)
                || outside(food, 0, 10000)) {
            throw new IllegalArgumentException("no such number of a choice");
        }
        if (now.choices.full()) {
            return NONE;
        }
        int choice = now.choices.add();
        now.choices.set(choice, CHOICE_COST, cost);
        now.choices.set(choice, CHOICE_GOODS, goods);
        now.choices.set(choice, CHOICE_FOOD, food);
        now.choices.set(choice, CHOICE_YEAR, year);
        return now.choices.size;
    }

    public void row(int row, int year, int steel, int goods, int food) throws IllegalArgumentException {
        if (outside(row, 0, ROWS - 1) || outside(year, 0, YEARS - 1) || outside(steel, 0, MOST_TOLD)
                || outside(goods, 0, MOST_TOLD) || outside(food, 0, MOST_TOLD)) {
            throw new IllegalArgumentException("no such number of a row");
        }
        int at = row * YEARS + year;
        now.years.set(at, YEAR_STEEL, steel);
        now.years.set(at, YEAR_GOODS, goods);
        now.years.set(at, YEAR_FOOD, food);
    }

    public int lasts() {
        return Plans.choicesThatLast(now);
    }

    public int cash(int a, int b, int c, int d, int e) throws IllegalArgumentException {
        if (a < 0 || b < 0 || c < 0 || d < 0 || e < 0) {
            throw new IllegalArgumentException("no such coin");
        }
        int[] coin = {0, a, b, c, d, e};
        return Ledger.firstNotPaid(now, coin);
    }

    // ---- UNDO and THE IMAGE

    public boolean undo() {
        if (!undoable) {
            return false;
        }
        now.copyFrom(before);
        undoable = false;
        return true;
    }

    public void keep() {
        image.copyFrom(now);
        imageBooks.copyFrom(books, now.week);
        imaged = true;
    }

    public boolean again() {
        if (!imaged) {
            return false;
        }
        now.copyFrom(image);
        books.copyFrom(imageBooks, image.week);
        undoable = false;
        return true;
    }

    public int count(int what) {
        if (what >= 12 && what < 12 + PLACES) {
            return now.cratesAt(what - 12);
        }
        switch (what) {
            case 0:
                return now.week;
            case 1:
                return now.lots.size;
            case 2:
                return now.steel;
            case 3:
                return now.actCount;
            case 4:
                return now.linesOfWeek();
            case 5:
                return now.openRequests();
            case 6:
                return now.ships.size;
            case 7:
                return now.ships.rowsWith(SHIP_STATE, SUNK);
            case 8:
                return now.lots.rowsWith(LOT_WRONG, 1);
            case 9:
                return now.bases.size;
            case 10:
                return now.bases.sumOf(BASE_BROUGHT);
            case 11:
                return now.ended ? 1 : 0;
            default:
                return NONE;
        }
    }

    // The BOOKS need no copy here: what they say of WEEKS ahead of this one stays true, the rest is written anew.
    private void remember() {
        before.copyFrom(now);
        undoable = true;
    }

    // ---- what is refused

    private static boolean outside(int n, int least, int most) {
        return n < least || n > most;
    }

    private static void testLand(int land) {
        if (outside(land, 0, LANDS - 1)) {
            throw new IndexOutOfBoundsException("no such land");
        }
    }

    private static void testAbroad(int land) {
        if (land == 0) {
            throw new IllegalArgumentException("the land is the maker");
        }
    }

    private static void testSort(int sort) {
        if (outside(sort, 0, SORTS - 1)) {
            throw new IndexOutOfBoundsException("no such sort");
        }
    }

    private static void testCrates(int crates) {
        if (outside(crates, 1, MOST_CRATES)) {
            throw new IllegalArgumentException("no such crates");
        }
    }

    private void testLot(int lot) {
        if (!now.lots.has(lot)) {
            throw new IndexOutOfBoundsException("no such lot");
        }
    }

    private void testShip(int ship) {
        if (!now.ships.has(ship)) {
            throw new IndexOutOfBoundsException("no such ship");
        }
    }

    private void testRoomForLot() {
        if (now.lots.full()) {
            throw new UnsupportedOperationException("no more lots");
        }
    }

    private void testNotEnded() {
        if (now.ended) {
            throw new IllegalStateException("it is behind the end");
        }
    }

    // ---- the classes inside

    /** Rows of one width in one array: a cell that is not there reads 0, and is not written. */
    private static final class Table {
        private final int width;
        private final int[] cells;
        private int size;

        Table(int rows, int width) {
            this.width = Math.max(1, width);
            this.cells = new int[Math.max(0, rows) * this.width];
        }

        boolean has(int row) {
            return row >= 0 && row < size;
        }

        boolean full() {
            return (size + 1) * width > cells.length;
        }

        private boolean reaches(int row, int column) {
            return row >= 0 && row < size && column >= 0 && column < width && (row + 1) * width <= cells.length;
        }

        int get(int row, int column) {
            return reaches(row, column) ? cells[row * width + column] : 0;
        }

        void set(int row, int column, int n) {
            if (reaches(row, column)) {
                cells[row * width + column] = n;
            }
        }

        void raise(int row, int column, int n) {
            if (reaches(row, column)) {
                cells[row * width + column] += n;
            }
        }

        /** A new row of zeros: its number; NONE if the table is full. */
        int add() {
            if (full()) {
                return NONE;
            }
            size++;
            for (int column = 0; column < width; column++) {
                set(size - 1, column, 0);
            }
            return size - 1;
        }

        int rowsWith(int column, int n) {
            int rows = 0;
            for (int row = 0; row < size; row++) {
                if (get(row, column) == n) {
                    rows++;
                }
            }
            return rows;
        }

        int sumOf(int column) {
            int sum = 0;
            for (int row = 0; row < size; row++) {
                sum += get(row, column);
            }
            return sum;
        }

        void copyFrom(Table other) {
            int length = other.size * other.width;
            if (length >= 0 && length <= cells.length && length <= other.cells.length) {
                System.arraycopy(other.cells, 0, cells, 0, length);
                size = other.size;
            }
        }
    }

    /** The bytes that wait to be read, and the things (words, NUMBERS, signs) of the text that was taken of them. */
    private static final class Tape {
        static final int MOST_BYTES = 400;
        private static final int MOST_DIGITS = 5;

        // things that are neither a sign (its own byte) nor a word (WORD and its number)
        private static final int TEXT_END = 0;
        private static final int NUMBER = 1;
        private static final int ODD = 2;
        private static final int WORD = 256;

        private final char[] bytes;
        private int size;
        private int length;
        private int next;
        private final int[] things;
        private final int[] begins;
        private final int[] numbers;
        private int count;

        Tape() {
            bytes = new char[MOST_BYTES];
            things = new int[MOST_BYTES + 1];
            begins = new int[MOST_BYTES + 1];
            numbers = new int[MOST_BYTES + 1];
        }

        void put(int n) {
            for (int shift = 24; shift >= 0; shift -= 8) {
                if (size >= 0 && size < bytes.length) {
                    bytes[size] = (char) (n >>> shift & 255);
                    size++;
                }
            }
        }

        void useUp() {
            length = size;
            size = 0;
        }

        /** Splits the text that was used up last into things, of which the last one is its end. */
        void split() {
            next = 0;
            count = 0;
            for (int i = 0; i <= length; i++) {
                skipBlanks();
                if (next >= length) {
                    addThing(TEXT_END, length, 0);
                    return;
                }
                splitOff(byteAt(next));
            }
        }

        private void skipBlanks() {
            for (int i = 0; i < length && byteAt(next) == ' '; i++) {
                next++;
            }
        }

        private void splitOff(char first) {
            int begin = next;
            if (isDigit(first)) {
                int number = passNumber();
                addThing(next - begin > MOST_DIGITS ? ODD : NUMBER, begin, number);
            } else if (isLetter(first)) {
                passWord();
                addThing(wordFrom(begin), begin, 0);
            } else {
                next++;
                boolean sign = first == ';' || first == '<' || first == '>' || first == '+' || first == '('
                        || first == ')';
                addThing(sign ? first : ODD, begin, 0);
            }
        }

        private int passNumber() {
            int number = 0;
            for (int i = 0; i < length && isDigit(byteAt(next)); i++) {
                if (i < MOST_DIGITS) {
                    number = number * 10 + (byteAt(next) - '0');
                }
                next++;
            }
            return number;
        }

        private void passWord() {
            for (int i = 0; i < length && isLetter(byteAt(next)); i++) {
                next++;
            }
        }

        private int wordFrom(int begin) {
            for (int word = 0; word < WORDS; word++) {
                if (stands(wordNumbered(word), begin)) {
                    return WORD + word;
                }
            }
            return ODD;
        }

        private boolean stands(String word, int begin) {
            if (word.length() != next - begin) {
                return false;
            }
            for (int i = 0; i < word.length(); i++) {
                if (word.charAt(i) != byteAt(begin + i)) {
                    return false;
                }
            }
            return true;
        }

        private void addThing(int thing, int begin, int number) {
            if (count >= 0 && count < things.length && count < begins.length && count < numbers.length) {
                things[count] = thing;
                begins[count] = begin;
                numbers[count] = number;
                count++;
            }
        }

        int numberAt(int i) {
            return i >= 0 && i < count && i < numbers.length ? numbers[i] : 0;
        }

        /** A byte of the text; 0, which no thing has in it, behind its end. */
        private char byteAt(int at) {
            return at >= 0 && at < length && at < bytes.length ? bytes[at] : 0;
        }

        private static boolean isDigit(char sign) {
            return sign >= '0' && sign <= '9';
        }

        private static boolean isLetter(char sign) {
            return sign >= 'a' && sign <= 'z';
        }

        private static String wordNumbered(int word) {
            switch (word) {
                case LEND:
                    return "lend";
                case MARK:
                    return "mark";
                case OWE:
                    return "owe";
                case GIVE:
                    return "give";
                case IF:
                    return "if";
                case OR:
                    return "or";
                case AND:
                    return "and";
                case NOT:
                    return "not";
                default:
                    return factNumbered(word - FIRST_FACT);
            }
        }

        private static String factNumbered(int fact) {
            switch (fact) {
                case FACT_LAND:
                    return "land";
                case FACT_SORT:
                    return "sort";
                case FACT_WEEK:
                    return "week";
                case FACT_CRATES:
                    return "crates";
                case FACT_TONS:
                    return "tons";
                case FACT_PRICE:
                    return "price";
                case FACT_HAD:
                    return "had";
                case FACT_HUNGER:
                    return "hunger";
                case FACT_ROCKS:
                    return "rocks";
                default:
                    return "to";
            }
        }
    }

    /** Reads a text into the code of an ACT; at the first thing that cannot stand where it is it goes no further. */
    private static final class Reader {
        private static final int MOST_LINES = 12;
        private static final int MOST_DEEP = 6;
        private static final int MOST_OWED = 100;

        private final Tape tape;
        private int at;
        private int thing;
        private int wrong;
        private final int[] kinds;
        private final int[] numbers;
        private final int[] ends;
        private int lines;
        private final int[] code;
        private int codeSize;

        Reader(Tape tape) {
            this.tape = tape;
            code = new int[Tape.MOST_BYTES];
            kinds = new int[MOST_LINES];
            numbers = new int[MOST_LINES];
            ends = new int[MOST_LINES];
            wrong = NONE;
        }

        void read() {
            lines = 0;
            codeSize = 0;
            wrong = NONE;
            tape.split();
            lookAt(0);
            for (int line = 0; line < MOST_LINES && thing != Tape.TEXT_END; line++) {
                readLine();
                if (wrong != NONE || thing == Tape.TEXT_END) {
                    return;
                }
                if (thing != ';') {
                    refuse();
                    return;
                }
                lookAt(at + 1);
                if (thing == Tape.TEXT_END || line == MOST_LINES - 1) {
                    refuse();
                    return;
                }
            }
        }

        private void readLine() {
            int kind = thing - Tape.WORD;
            if (kind < LEND || kind > GIVE) {
                refuse();
                return;
            }
            lookAt(at + 1);
            int told = 0;
            if (kind == MARK || kind == OWE) {
                told = tape.numberAt(at);
                if (thing != Tape.NUMBER || kind == OWE && told > MOST_OWED) {
                    refuse();
                    return;
                }
                lookAt(at + 1);
            }
            if (thing == Tape.WORD + IF) {
                lookAt(at + 1);
                readAny(0);
            }
            addLine(kind, told);
        }

        private void addLine(int kind, int told) {
            if (wrong == NONE && lines >= 0 && lines < kinds.length && lines < numbers.length && lines < ends.length) {
                kinds[lines] = kind;
                numbers[lines] = told;
                ends[lines] = codeSize;
                lines++;
            }
        }

        /** ALL { or ALL }, in so many ( and not. */
        private void readAny(int deep) {
            readAll(deep);
            for (int i = 0; i < Tape.MOST_BYTES && wrong == NONE && thing == Tape.WORD + OR; i++) {
                lookAt(at + 1);
                readAll(deep);
                write(CODE_OR);
            }
        }

        private void readAll(int deep) {
            readAtom(deep);
            for (int i = 0; i < Tape.MOST_BYTES && wrong == NONE && thing == Tape.WORD + AND; i++) {
                lookAt(at + 1);
                readAtom(deep);
                write(CODE_AND);
            }
        }

        private void readAtom(int deep) {
            boolean not = thing == Tape.WORD + NOT;
            if (!not && thing != '(') {
                readSum();
                int sign = thing;
                if (sign != '<' && sign != '>') {
                    refuse();
                    return;
                }
                lookAt(at + 1);
                readSum();
                write(sign == '<' ? CODE_LESS : CODE_MORE);
                return;
            }
            if (deep >= MOST_DEEP) {
                refuse();
                return;
            }
            lookAt(at + 1);
            if (not) {
                readAtom(deep + 1);
                write(CODE_NOT);
                return;
            }
            readAny(deep + 1);
            if (thing != ')') {
                refuse();
            }
            lookAt(at + 1);
        }

        private void readSum() {
            boolean more = true;
            for (int part = 0; part < Tape.MOST_BYTES && more; part++) {
                if (thing == Tape.NUMBER) {
                    write(tape.numberAt(at));
                } else if (thing >= Tape.WORD + FIRST_FACT) {
                    write(FACT_CODE - (thing - Tape.WORD - FIRST_FACT));
                } else {
                    refuse();
                }
                if (part > 0) {
                    write(CODE_PLUS);
                }
                lookAt(at + 1);
                more = wrong == NONE && thing == '+';
                if (more) {
                    lookAt(at + 1);
                }
            }
        }

        /** The thing that is looked at cannot stand there; what came wrong first stays. */
        private void refuse() {
            if (wrong == NONE) {
                wrong = at >= 0 && at < tape.count && at < tape.begins.length ? tape.begins[at] : tape.length;
            }
        }

        private void lookAt(int i) {
            at = i;
            thing = i >= 0 && i < tape.count && i < tape.things.length ? tape.things[i] : Tape.TEXT_END;
        }

        private void write(int n) {
            if (codeSize >= 0 && codeSize < code.length) {
                code[codeSize] = n;
                codeSize++;
            }
        }
    }

    /** An ACT as it was read: of each LINE its word, its NUMBER, and where its condition ends in the code. */
    private static final class Act {
        private final int from;
        private final int lines;
        private final int[] kinds;
        private final int[] numbers;
        private final int[] ends;
        private final int[] code;

        Act(int from, Reader reader) {
            this.from = from;
            lines = Math.max(0, Math.min(reader.lines, reader.kinds.length));
            kinds = Arrays.copyOf(reader.kinds, lines);
            numbers = Arrays.copyOf(reader.numbers, lines);
            ends = Arrays.copyOf(reader.ends, lines);
            code = Arrays.copyOf(reader.code, Math.max(0, reader.codeSize));
        }

        int kindOf(int line) {
            return line >= 0 && line < kinds.length ? kinds[line] : NONE;
        }

        int numberOf(int line) {
            return line >= 0 && line < numbers.length ? numbers[line] : 0;
        }

        int endOf(int line) {
            return line >= 0 && line < ends.length ? ends[line] : 0;
        }
    }

    /** Tells which LINES of an ACT hold for FACTS that were gathered, and which REQUEST is ahead of others. */
    private static final class Court {
        private final int[] marks;
        private final boolean[] waits;
        private final int[] facts;
        private final long[] stack;
        private int top;
        private Act law;

        Court() {
            marks = new int[House.MOST_REQUESTS];
            waits = new boolean[House.MOST_REQUESTS];
            facts = new int[FACTS];
            stack = new long[Tape.MOST_BYTES];
        }

        /** Calls the REQUESTS for a SORT that are open. */
        void call(House house, int sort) {
            for (int request = 0; request < marks.length && request < waits.length; request++) {
                waits[request] = house.requests.has(request) && house.lackOf(request) > 0
                        && house.requests.get(request, ASK_SORT) == sort;
                if (waits[request]) {
                    hear(house, request, house.requests.get(request, ASK_CRATES));
                    marks[request] = sumOfMarks();
                }
            }
        }

        /** Whose turn it is of those called, who then waits no more; NONE if nobody waits. */
        int nextCalled(House house) {
            int first = NONE;
            for (int request = 0; request < waits.length; request++) {
                if (waits[request] && (first == NONE || isAhead(house, request, first))) {
                    first = request;
                }
            }
            if (first >= 0 && first < waits.length) {
                waits[first] = false;
            }
            return first;
        }

        private boolean isAhead(House house, int one, int other) {
            if (one < 0 || one >= marks.length || other < 0 || other >= marks.length) {
                return false;
            }
            if (marks[one] != marks[other]) {
                return marks[one] > marks[other];
            }
            return house.requests.get(one, ASK_DRAWN) < house.requests.get(other, ASK_DRAWN);
        }

        /** A REQUEST, of which so many crates are looked at. */
        void hear(House house, int request, int crates) {
            gather(house, house.requests.get(request, ASK_LAND), house.requests.get(request, ASK_SORT), crates, 0);
        }

        void gather(House house, int land, int sort, int crates, int to) {
            law = house.actInForce();
            state(FACT_LAND, land);
            state(FACT_SORT, sort);
            state(FACT_WEEK, house.week);
            state(FACT_CRATES, crates);
            state(FACT_TONS, crates * house.sorts.get(sort, SORT_TONS));
            state(FACT_PRICE, house.priceIn(sort, house.week));
            state(FACT_HAD, house.trade.get(House.tradeRow(land, sort), TRADE_LANDED));
            state(FACT_HUNGER, house.lands.get(land, LAND_HUNGER));
            state(FACT_ROCKS, house.basesOf(land));
            state(FACT_TO, to);
        }

        private void state(int fact, int n) {
            if (fact >= 0 && fact < facts.length) {
                facts[fact] = n;
            }
        }

        /** The first LINE of a word that holds. */
        int why(int kind) {
            int lines = law == null ? 0 : law.lines;
            for (int line = 0; line < lines; line++) {
                if (holds(line, kind)) {
                    return line;
                }
            }
            return NONE;
        }

        int sumOfMarks() {
            int lines = law == null ? 0 : law.lines;
            int sum = 0;
            for (int line = 0; line < lines; line++) {
                if (holds(line, MARK)) {
                    sum += law.numberOf(line);
                }
            }
            return sum;
        }

        int greatestOwe() {
            int lines = law == null ? 0 : law.lines;
            int greatest = 0;
            for (int line = 0; line < lines; line++) {
                if (holds(line, OWE)) {
                    greatest = Math.max(greatest, law.numberOf(line));
                }
            }
            return greatest;
        }

        private boolean holds(int line, int kind) {
            if (law == null || law.kindOf(line) != kind) {
                return false;
            }
            int from = line == 0 ? 0 : law.endOf(line - 1);
            int to = Math.min(law.endOf(line), law.code.length);
            if (from >= to) {
                return true;
            }
            top = 0;
            for (int i = Math.max(0, from); i < to; i++) {
                follow(law.code[i]);
            }
            return pop() != 0;
        }

        private void follow(int code) {
            if (code >= 0) {
                push(code);
            } else if (code <= FACT_CODE) {
                int fact = FACT_CODE - code;
                push(fact >= 0 && fact < facts.length ? facts[fact] : 0);
            } else if (code == CODE_NOT) {
                push(pop() == 0 ? 1 : 0);
            } else {
                long second = pop();
                long first = pop();
                push(joined(code, first, second));
            }
        }

        private static long joined(int code, long first, long second) {
            switch (code) {
                case CODE_PLUS:
                    return first + second;
                case CODE_LESS:
                    return first < second ? 1 : 0;
                case CODE_MORE:
                    return first > second ? 1 : 0;
                case CODE_AND:
                    return first != 0 && second != 0 ? 1 : 0;
                default:
                    return first != 0 || second != 0 ? 1 : 0;
            }
        }

        private void push(long n) {
            if (top >= 0 && top < stack.length) {
                stack[top] = n;
                top++;
            }
        }

        private long pop() {
            if (top <= 0 || top > stack.length) {
                return 0;
            }
            top--;
            return stack[top];
        }
    }

    /** All that UNDO and THE IMAGE bring back, but for the BOOKS. */
    private static final class House {
        static final int MOST_ACTS = 10;
        static final int MOST_REQUESTS = 60;

        private int week;
        private int steel;
        private int hands;
        private boolean ended;
        private final Act[] acts;
        private int actCount;
        private final Table sorts;
        private final Table prices;
        private final Table lots;
        private final Table requests;
        private final Table ships;
        private final Table lands;
        private final Table trade;
        private final Table risks;
        private final Table returns;
        private final Table sightings;
        private final Table bases;
        private final Table pages;
        private final Table choices;
        private final Table years;

        House() {
            acts = new Act[MOST_ACTS];
            sorts = new Table(SORTS, SORT_CELLS);
            prices = new Table(100, TOLD_CELLS);
            lots = new Table(100, LOT_CELLS);
            requests = new Table(MOST_REQUESTS, ASK_CELLS);
            ships = new Table(12, SHIP_CELLS);
            lands = new Table(LANDS, LAND_CELLS);
            trade = new Table(LANDS * SORTS, TRADE_CELLS);
            risks = new Table(100, TOLD_CELLS);
            returns = new Table(100, ROW_CELLS);
            sightings = new Table(60, SEEN_CELLS);
            bases = new Table(10, BASE_CELLS);
            pages = new Table(9, PAGE_CELLS);
            choices = new Table(8, CHOICE_CELLS);
            years = new Table(ROWS * YEARS, YEAR_CELLS);
            setUp();
        }

        private void setUp() {
            for (int i = 0; i < SORTS; i++) {
                int sort = sorts.add();
                sorts.set(sort, SORT_TONS, 1);
                sorts.set(sort, SORT_WEEKS, 1);
            }
            for (int i = 0; i < LANDS; i++) {
                lands.set(lands.add(), LAND_WAY, 2);
            }
            for (int i = 0; i < LANDS * SORTS; i++) {
                trade.add();
            }
            for (int i = 0; i < ROWS * YEARS; i++) {
                years.add();
            }
        }

        void copyFrom(House other) {
            week = other.week;
            steel = other.steel;
            hands = other.hands;
            ended = other.ended;
            actCount = other.actCount;
            for (int i = 0; i < acts.length && i < other.acts.length; i++) {
                acts[i] = other.acts[i];
            }
            sorts.copyFrom(other.sorts);
            prices.copyFrom(other.prices);
            lots.copyFrom(other.lots);
            requests.copyFrom(other.requests);
            ships.copyFrom(other.ships);
            lands.copyFrom(other.lands);
            trade.copyFrom(other.trade);
            risks.copyFrom(other.risks);
            returns.copyFrom(other.returns);
            sightings.copyFrom(other.sightings);
            bases.copyFrom(other.bases);
            pages.copyFrom(other.pages);
            choices.copyFrom(other.choices);
            years.copyFrom(other.years);
        }

        static int tradeRow(int land, int sort) {
            return land * SORTS + sort;
        }

        /** A telling, behind the others: how many there are; NONE if there is no room. */
        static int tell(Table tellings, int of, int week, int n) {
            int row = tellings.add();
            if (row == NONE) {
                return NONE;
            }
            tellings.set(row, TOLD_OF, of);
            tellings.set(row, TOLD_WEEK, week);
            tellings.set(row, TOLD_NUMBER, n);
            return tellings.size;
        }

        /** What was told for the latest WEEK up to this one, of several tellings the last. */
        private static int toldFor(Table tellings, int of, int week) {
            int latest = NONE;
            int told = 0;
            for (int row = 0; row < tellings.size; row++) {
                int from = tellings.get(row, TOLD_WEEK);
                if (tellings.get(row, TOLD_OF) == of && from <= week && from >= latest) {
                    latest = from;
                    told = tellings.get(row, TOLD_NUMBER);
                }
            }
            return told;
        }

        int priceIn(int sort, int week) {
            return toldFor(prices, sort, week);
        }

        int riskIn(int land, int week) {
            return toldFor(risks, land, week);
        }

        void addAct(Act act) {
            if (actCount >= 0 && actCount < acts.length) {
                acts[actCount] = act;
                actCount++;
            }
        }

        /** The ACT of this WEEK; null ahead of any. */
        Act actInForce() {
            Act latest = null;
            for (int i = 0; i < actCount && i < acts.length; i++) {
                Act act = acts[i];
                if (act != null && act.from <= week && (latest == null || act.from >= latest.from)) {
                    latest = act;
                }
            }
            return latest;
        }

        int linesOfWeek() {
            Act act = actInForce();
            return act == null ? 0 : act.lines;
        }

        // LOTS

        int addLot(int sort, int crates, int land, int place) {
            int lot = lots.add();
            lots.set(lot, LOT_SORT, sort);
            lots.set(lot, LOT_CRATES, crates);
            lots.set(lot, LOT_LAND, land);
            lots.set(lot, LOT_ALLOTTED, NONE);
            lots.set(lot, LOT_SOURCE, NONE);
            lots.set(lot, LOT_PLACE + place, crates);
            return lot;
        }

        boolean isStock(int lot) {
            return lots.get(lot, LOT_LAND) == 0;
        }

        boolean isBack(int lot) {
            return lots.get(lot, LOT_BACK) == 1;
        }

        boolean isLent(int lot) {
            return lots.get(lot, LOT_LAND) != 0 && lots.get(lot, LOT_BACK) == 0;
        }

        boolean isOrderNotBegun(int lot) {
            return isStock(lot) && lots.get(lot, LOT_BEGUN) == 0;
        }

        int crates(int lot, int place) {
            return lots.get(lot, LOT_PLACE + place);
        }

        void move(int lot, int n, int from, int to) {
            lots.raise(lot, LOT_PLACE + from, -n);
            lots.raise(lot, LOT_PLACE + to, n);
        }

        int cratesAt(int place) {
            return lots.sumOf(LOT_PLACE + place);
        }

        /** What all crates of a LOT need of what its SORT tells of one. */
        int needOfAll(int lot, int column) {
            return lots.get(lot, LOT_CRATES) * sorts.get(lots.get(lot, LOT_SORT), column);
        }

        int stockInPort(int sort) {
            int sum = 0;
            for (int lot = 0; lot < lots.size; lot++) {
                if (isStock(lot) && lots.get(lot, LOT_SORT) == sort) {
                    sum += crates(lot, PORT);
                }
            }
            return sum;
        }

        private void takeFromStock(int sort, int n) {
            int lack = n;
            for (int lot = 0; lot < lots.size && lack > 0; lot++) {
                if (isStock(lot) && lots.get(lot, LOT_SORT) == sort) {
                    int taken = Math.min(lack, crates(lot, PORT));
                    lots.raise(lot, LOT_PLACE + PORT, -taken);
                    lots.raise(lot, LOT_CRATES, -taken);
                    lack -= taken;
                }
            }
        }

        void lend(int request, int n, int owe) {
            int sort = requests.get(request, ASK_SORT);
            takeFromStock(sort, n);
            int lot = addLot(sort, n, requests.get(request, ASK_LAND), PORT);
            lots.set(lot, LOT_ALLOTTED, week);
            // PRICE and owe stay as they are now: what is told later in this WEEK changes nothing for this LOT
            lots.set(lot, LOT_OWE, owe);
            lots.set(lot, LOT_PRICE, priceIn(sort, week));
            requests.raise(request, ASK_HAS, n);
        }

        int giveOn(int lot, int n, int land, boolean wrong) {
            int sort = lots.get(lot, LOT_SORT);
            move(lot, n, LANDED, GIVEN);
            int given = addLot(sort, n, land, LANDED);
            lots.set(given, LOT_SOURCE, lot);
            lots.set(given, LOT_WRONG, wrong ? 1 : 0);
            trade.raise(tradeRow(land, sort), TRADE_GIVEN, n);
            return given;
        }

        /** THE END: how many crates are left. */
        int close() {
            int left = 0;
            for (int lot = 0; lot < lots.size; lot++) {
                int n = crates(lot, LANDED);
                move(lot, n, LANDED, LEFT);
                left += n;
            }
            ended = true;
            return left;
        }

        // REQUESTS

        int lackOf(int request) {
            return requests.get(request, ASK_CRATES) - requests.get(request, ASK_HAS);
        }

        int openRequests() {
            int open = 0;
            for (int request = 0; request < requests.size; request++) {
                if (lackOf(request) > 0) {
                    open++;
                }
            }
            return open;
        }

        // BASES

        int basesOf(int land) {
            int leased = 0;
            for (int base = 0; base < bases.size; base++) {
                int age = week - bases.get(base, BASE_FROM);
                if (bases.get(base, BASE_LAND) == land && age < bases.get(base, BASE_WEEKS)) {
                    leased++;
                }
            }
            return leased;
        }

        // SHIPS

        int cargoLot(int ship, int slot) {
            return ships.get(ship, SHIP_CARGO + 2 * slot);
        }

        int cargoCrates(int ship, int slot) {
            return ships.get(ship, SHIP_CARGO + 2 * slot + 1);
        }

        int tonsAboard(int ship) {
            int sum = 0;
            for (int slot = 0; slot < ships.get(ship, SHIP_LOTS) && slot < CARGO_LOTS; slot++) {
                sum += cargoCrates(ship, slot) * tonsOf(cargoLot(ship, slot));
            }
            return sum;
        }

        private int tonsOf(int lot) {
            return sorts.get(lots.get(lot, LOT_SORT), SORT_TONS);
        }

        /** Where a LOT lies in a SHIP, or would lie: how many LOTS there are, if it is a new one. */
        private int slotFor(int ship, int lot) {
            int filled = Math.min(CARGO_LOTS, ships.get(ship, SHIP_LOTS));
            for (int slot = 0; slot < filled; slot++) {
                if (cargoLot(ship, slot) == lot) {
                    return slot;
                }
            }
            return filled;
        }

        boolean mayLoad(int ship, int lot, int n) {
            int place = ships.get(ship, SHIP_STATE) == AT_HOME ? PORT : LANDED;
            if (!fits(ship, lot) || n < 1 || n > crates(lot, place) || slotFor(ship, lot) >= CARGO_LOTS) {
                return false;
            }
            return tonsAboard(ship) + n * tonsOf(lot) <= ships.get(ship, SHIP_HOLD);
        }

        private boolean fits(int ship, int lot) {
            int state = ships.get(ship, SHIP_STATE);
            int land = lots.get(lot, LOT_LAND);
            if (state == AT_HOME) {
                return isLent(lot) && (ships.get(ship, SHIP_LOTS) == 0 || landOfCargo(ship) == land);
            }
            return state == ABROAD && isBack(lot) && ships.get(ship, SHIP_LAND) == land;
        }

        private int landOfCargo(int ship) {
            return lots.get(cargoLot(ship, 0), LOT_LAND);
        }

        void putAboard(int ship, int lot, int n) {
            move(lot, n, ships.get(ship, SHIP_STATE) == AT_HOME ? PORT : LANDED, ABOARD);
            int slot = slotFor(ship, lot);
            if (slot == ships.get(ship, SHIP_LOTS)) {
                ships.raise(ship, SHIP_LOTS, 1);
                ships.set(ship, SHIP_CARGO + 2 * slot, lot);
                ships.set(ship, SHIP_CARGO + 2 * slot + 1, 0);
            }
            ships.raise(ship, SHIP_CARGO + 2 * slot + 1, n);
        }

        boolean maySail(int ship, int land) {
            int state = ships.get(ship, SHIP_STATE);
            if (state == AT_HOME) {
                return land != 0 && (ships.get(ship, SHIP_LOTS) == 0 || landOfCargo(ship) == land);
            }
            return state == ABROAD && land == 0;
        }

        /** Outward to a LAND, or home (LAND 0) by the ROUTE of the LAND it is in. */
        void putToSea(int ship, int land) {
            if (land != 0) {
                ships.set(ship, SHIP_LAND, land);
            }
            ships.set(ship, SHIP_STATE, land != 0 ? OUTWARD : HOMEWARD);
            ships.set(ship, SHIP_WEEKS, lands.get(ships.get(ship, SHIP_LAND), LAND_WAY));
        }
    }

    /** How a WEEK goes by. */
    private static final class Turn {
        private Turn() {
        }

        static void pass(House house) {
            house.week++;
            if (house.ended) {
                return;
            }
            beginOrders(house);
            workOnOrders(house);
            for (int ship = 0; ship < house.ships.size; ship++) {
                int state = house.ships.get(ship, SHIP_STATE);
                if (state == OUTWARD || state == HOMEWARD) {
                    goBySea(house, ship);
                }
            }
            for (int land = 1; land < LANDS; land++) {
                useGoods(house, land);
            }
            for (int land = 1; land < LANDS; land++) {
                if (house.lands.get(land, LAND_MOOD) < 0) {
                    house.lands.raise(land, LAND_MOOD, 1);
                }
            }
            collectYields(house);
        }

        private static void beginOrders(House house) {
            for (int lot = 0; lot < house.lots.size; lot++) {
                if (house.isOrderNotBegun(lot) && house.needOfAll(lot, SORT_STEEL) <= house.steel) {
                    house.steel -= house.needOfAll(lot, SORT_STEEL);
                    house.lots.set(lot, LOT_BEGUN, 1);
                }
            }
        }

        private static void workOnOrders(House house) {
            int free = house.hands;
            for (int lot = 0; lot < house.lots.size; lot++) {
                boolean atWork = house.crates(lot, WORK) > 0 && house.lots.get(lot, LOT_BEGUN) == 1;
                if (atWork && house.needOfAll(lot, SORT_HANDS) <= free) {
                    free -= house.needOfAll(lot, SORT_HANDS);
                    workOn(house, lot);
                }
            }
        }

        private static void workOn(House house, int lot) {
            house.lots.raise(lot, LOT_DONE, 1);
            if (house.lots.get(lot, LOT_DONE) >= house.sorts.get(house.lots.get(lot, LOT_SORT), SORT_WEEKS)) {
                house.move(lot, house.crates(lot, WORK), WORK, PORT);
            }
        }

        private static void goBySea(House house, int ship) {
            int land = house.ships.get(ship, SHIP_LAND);
            int draw = (house.ships.get(ship, SHIP_LUCK) + 37 * house.week) % 100;
            if (draw < house.riskIn(land, house.week)) {
                sink(house, ship);
                return;
            }
            house.ships.raise(ship, SHIP_WEEKS, -1);
            if (house.ships.get(ship, SHIP_WEEKS) > 0) {
                return;
            }
            if (house.ships.get(ship, SHIP_STATE) == OUTWARD) {
                arriveAbroad(house, ship);
            } else {
                arriveHome(house, ship);
            }
        }

        private static void sink(House house, int ship) {
            unload(house, ship, LOST);
            house.ships.set(ship, SHIP_STATE, SUNK);
            house.ships.set(ship, SHIP_WEEKS, 0);
            house.ships.set(ship, SHIP_LOST, house.week);
        }

        private static void arriveAbroad(House house, int ship) {
            int land = house.ships.get(ship, SHIP_LAND);
            for (int slot = 0; slot < house.ships.get(ship, SHIP_LOTS) && slot < CARGO_LOTS; slot++) {
                int lot = house.cargoLot(ship, slot);
                int sort = house.lots.get(lot, LOT_SORT);
                house.trade.raise(House.tradeRow(land, sort), TRADE_LANDED, house.cargoCrates(ship, slot));
                int mood = house.lands.get(land, LAND_MOOD) - house.lots.get(lot, LOT_LABEL);
                house.lands.set(land, LAND_MOOD, Math.max(-100, mood));
            }
            unload(house, ship, LANDED);
            house.ships.set(ship, SHIP_STATE, ABROAD);
        }

        private static void arriveHome(House house, int ship) {
            unload(house, ship, RETURNED);
            house.ships.set(ship, SHIP_STATE, AT_HOME);
            house.ships.set(ship, SHIP_LAND, 0);
        }

        private static void unload(House house, int ship, int place) {
            for (int slot = 0; slot < house.ships.get(ship, SHIP_LOTS) && slot < CARGO_LOTS; slot++) {
                house.move(house.cargoLot(ship, slot), house.cargoCrates(ship, slot), ABOARD, place);
            }
            house.ships.set(ship, SHIP_LOTS, 0);
        }

        private static void useGoods(House house, int land) {
            boolean offended = house.lands.get(land, LAND_MOOD) < 0;
            for (int sort = 0; sort < SORTS; sort++) {
                int need = house.trade.get(House.tradeRow(land, sort), TRADE_NEED);
                if (need > 0) {
                    int used = useSort(house, land, sort, offended ? need / 2 : need);
                    house.lands.raise(land, LAND_HUNGER, need - used);
                }
            }
        }

        /** Uses up so many crates, or as many as there are: how many. */
        private static int useSort(House house, int land, int sort, int most) {
            int used = 0;
            for (int lot = 0; lot < house.lots.size && used < most; lot++) {
                if (house.crates(lot, LANDED) > 0 && house.lots.get(lot, LOT_LAND) == land
                        && house.lots.get(lot, LOT_SORT) == sort && house.isLent(lot)) {
                    int n = Math.min(most - used, house.crates(lot, LANDED));
                    house.move(lot, n, LANDED, USED);
                    used += n;
                }
            }
            return used;
        }

        private static void collectYields(House house) {
            for (int base = 0; base < house.bases.size; base++) {
                int age = house.week - house.bases.get(base, BASE_FROM);
                if (age <= house.bases.get(base, BASE_WEEKS)) {
                    house.bases.raise(base, BASE_BROUGHT, house.bases.get(base, BASE_YIELD));
                }
            }
        }
    }

    /** What was landed in each LAND of each SORT at the end of each WEEK that is over. */
    private static final class Books {
        private static final int WEEK_CELLS = LANDS * SORTS;
        private int[] landed;

        Books() {
            landed = new int[WEEK_CELLS * 16];
        }

        void write(House house) {
            int from = house.week * WEEK_CELLS;
            makeRoom(from + WEEK_CELLS);
            for (int i = 0; i < WEEK_CELLS; i++) {
                raise(from + i, 0, false);
            }
            for (int lot = 0; lot < house.lots.size; lot++) {
                int n = house.crates(lot, LANDED);
                if (n > 0 && house.isLent(lot)) {
                    int row = House.tradeRow(house.lots.get(lot, LOT_LAND), house.lots.get(lot, LOT_SORT));
                    raise(from + row, n, true);
                }
            }
        }

        private void raise(int cell, int n, boolean more) {
            if (cell >= 0 && cell < landed.length) {
                landed[cell] = more ? landed[cell] + n : n;
            }
        }

        private void makeRoom(int cells) {
            int most = (LAST_WEEK + 1) * WEEK_CELLS;
            if (cells > landed.length && cells <= most) {
                landed = Arrays.copyOf(landed, Math.min(most, Math.max(cells, 2 * landed.length)));
            }
        }

        int at(int week, int land, int sort) {
            int cell = week * WEEK_CELLS + House.tradeRow(land, sort);
            return cell >= 0 && cell < landed.length ? landed[cell] : 0;
        }

        void copyFrom(Books other, int weeks) {
            int cells = weeks * WEEK_CELLS;
            makeRoom(cells);
            if (cells >= 0 && cells <= landed.length && cells <= other.landed.length) {
                System.arraycopy(other.landed, 0, landed, 0, cells);
            }
        }
    }

    /** What is told of LANDS from what there is. */
    private static final class Ledger {
        private Ledger() {
        }

        private static boolean isLentTo(House house, int lot, int land) {
            return house.lots.get(lot, LOT_LAND) == land && house.isLent(lot);
        }

        static long owed(House house, int land) {
            long sum = 0;
            for (int lot = 0; lot < house.lots.size; lot++) {
                if (isLentTo(house, lot, land)) {
                    sum += owedFor(house, lot);
                }
            }
            return sum;
        }

        private static long owedFor(House house, int lot) {
            long crates = house.lots.get(lot, LOT_CRATES) - house.crates(lot, RETURNED) - house.crates(lot, LEFT);
            return crates * house.lots.get(lot, LOT_PRICE) * house.lots.get(lot, LOT_OWE) / 100;
        }

        static int lentAt(House house, int land, int place) {
            int sum = 0;
            for (int lot = 0; lot < house.lots.size; lot++) {
                if (isLentTo(house, lot, land)) {
                    sum += house.crates(lot, place);
                }
            }
            return sum;
        }

        private static int landedOf(House house, int land, int sort) {
            int sum = 0;
            for (int lot = 0; lot < house.lots.size; lot++) {
                if (isLentTo(house, lot, land) && house.lots.get(lot, LOT_SORT) == sort) {
                    sum += house.crates(lot, LANDED);
                }
            }
            return sum;
        }

        static int landedAtEnd(House house, Books books, int land, int sort, int week) {
            return week == house.week ? landedOf(house, land, sort) : books.at(week, land, sort);
        }

        /** The RETURN of the latest WEEK, of several that which came last; NONE without one. */
        private static int latestReturn(House house, int land, int sort) {
            int latest = NONE;
            for (int row = 0; row < house.returns.size; row++) {
                if (house.returns.get(row, ROW_LAND) == land && house.returns.get(row, ROW_SORT) == sort
                        && (latest == NONE
                        || house.returns.get(row, ROW_WEEK) >= house.returns.get(latest, ROW_WEEK))) {
                    latest = row;
                }
            }
            return latest;
        }

        static long sure(House house, Books books, int land) {
            long lack = 0;
            for (int sort = 0; sort < SORTS; sort++) {
                int row = latestReturn(house, land, sort);
                if (row != NONE) {
                    long due = landedAtEnd(house, books, land, sort, house.returns.get(row, ROW_WEEK));
                    lack += Math.max(0, due - house.returns.get(row, ROW_CRATES));
                }
            }
            return lack;
        }

        static long landedWithoutReturn(House house, int land) {
            long sum = 0;
            for (int sort = 0; sort < SORTS; sort++) {
                if (latestReturn(house, land, sort) == NONE) {
                    sum += landedOf(house, land, sort);
                }
            }
            return sum;
        }

        static long balanceBy(House house, int land, int what, int week) {
            long sum = 0;
            for (int sort = 0; sort < SORTS; sort++) {
                long crates = house.trade.get(House.tradeRow(land, sort), TRADE_LANDED) - cameBack(house, land, sort);
                sum += crates * worthOf(house, sort, what, week);
            }
            return sum;
        }

        private static int worthOf(House house, int sort, int what, int week) {
            if (what == 0) {
                return house.priceIn(sort, week);
            }
            return house.sorts.get(sort, what == 1 ? SORT_HANDS : SORT_TONS);
        }

        private static int cameBack(House house, int land, int sort) {
            int sum = 0;
            for (int lot = 0; lot < house.lots.size; lot++) {
                if (house.lots.get(lot, LOT_LAND) == land && house.lots.get(lot, LOT_SORT) == sort) {
                    sum += house.crates(lot, RETURNED);
                }
            }
            return sum;
        }

        static int unexplained(House house, int land, int sort) {
            int greatest = 0;
            for (int row = 0; row < house.sightings.size; row++) {
                if (house.sightings.get(row, ROW_LAND) == land && house.sightings.get(row, ROW_SORT) == sort) {
                    greatest = Math.max(greatest, house.sightings.get(row, ROW_CRATES));
                }
            }
            int row = House.tradeRow(land, sort);
            int known = house.trade.get(row, TRADE_LANDED) + house.trade.get(row, TRADE_GIVEN);
            return Math.max(0, greatest - known);
        }

        static int landsWith(House house, int sort) {
            int bits = 0;
            for (int land = 1; land < LANDS; land++) {
                if (house.trade.get(House.tradeRow(land, sort), TRADE_LANDED) > 0) {
                    bits |= 1 << land;
                }
            }
            return bits;
        }

        /** The first allotted LOT for which the coin of its LAND is not enough. */
        static int firstNotPaid(House house, int[] coin) {
            for (int lot = 0; lot < house.lots.size; lot++) {
                int land = house.lots.get(lot, LOT_LAND);
                if (house.lots.get(lot, LOT_ALLOTTED) != NONE && land >= 0 && land < coin.length) {
                    int due = house.lots.get(lot, LOT_CRATES) * house.lots.get(lot, LOT_PRICE);
                    if (due > coin[land]) {
                        return lot;
                    }
                    coin[land] -= due;
                }
            }
            return NONE;
        }
    }

    /** The SHIPS at home, each sent to a LAND or to none so that the least is lost. */
    private static final class Hulls {
        private static final int MOST_SHIPS = 6;
        // more than any way loses
        private static final int NO_WAY = 1000000000;
        private final int[] ships;
        private final int[] holds;
        private final int[] goal;
        private final int[] best;
        private final int[] risks;
        private final int[] lacks;
        private int shipCount;
        private int least;

        Hulls() {
            ships = new int[MOST_SHIPS];
            holds = new int[MOST_SHIPS];
            goal = new int[MOST_SHIPS];
            best = new int[MOST_SHIPS];
            risks = new int[LANDS];
            lacks = new int[LANDS];
        }

        void plan(House house) {
            shipCount = 0;
            least = NO_WAY;
            int free = 0;
            for (int ship = 0; ship < house.ships.size; ship++) {
                if (house.ships.get(ship, SHIP_STATE) == AT_HOME && shipCount < ships.length
                        && shipCount < holds.length) {
                    ships[shipCount] = ship;
                    holds[shipCount] = house.ships.get(ship, SHIP_HOLD);
                    free += holds[shipCount];
                    shipCount++;
                }
            }
            for (int land = 0; land < LANDS && land < lacks.length && land < risks.length; land++) {
                lacks[land] = house.lands.get(land, LAND_TONS);
                risks[land] = house.riskIn(land, house.week + 1);
            }
            send(0, free, 0);
        }

        /**
         * LANDS in their order and only what is better: so of several alike the first one stays. A LAND that lacks
         * nothing is passed over: none in its place loses no more, and comes first.
         */
        private void send(int i, int free, int lost) {
            if (lost >= least || lacking() > free) {
                return;
            }
            if (i >= shipCount || i >= holds.length || i >= goal.length) {
                least = lost;
                System.arraycopy(goal, 0, best, 0, Math.min(goal.length, best.length));
                return;
            }
            for (int land = 0; land < lacks.length && land < risks.length; land++) {
                if (land == 0 || lacks[land] > 0) {
                    goal[i] = land;
                    lacks[land] -= holds[i];
                    send(i + 1, free - holds[i], lost + holds[i] * risks[land]);
                    lacks[land] += holds[i];
                }
            }
        }

        private int lacking() {
            int sum = 0;
            for (int land = 1; land < lacks.length; land++) {
                sum += Math.max(0, lacks[land]);
            }
            return sum;
        }

        int leastLost() {
            return least == NO_WAY ? NONE : least;
        }

        int landOf(int ship) {
            if (least == NO_WAY) {
                return NONE;
            }
            for (int i = 0; i < shipCount && i < ships.length && i < best.length; i++) {
                if (ships[i] == ship) {
                    return best[i];
                }
            }
            return NONE;
        }
    }

    /** Sets, as bits, that are the best of all that may be. */
    private static final class Plans {
        private static final int MOST_ORDERS = 8;

        private Plans() {
        }

        private static boolean isIn(int bits, int i) {
            return (bits >>> i & 1) == 1;
        }

        /** The first ORDERS that are not BEGUN, as bits behind one another: their LOTS stand in the room given. */
        private static int ordersNotBegun(House house, int[] lots) {
            int orders = 0;
            for (int lot = 0; lot < house.lots.size; lot++) {
                if (house.isOrderNotBegun(lot) && orders < lots.length) {
                    lots[orders] = lot;
                    orders++;
                }
            }
            return orders;
        }

        static int bestOrdersOf(House house) {
            int[] lots = new int[MOST_ORDERS];
            int orders = Math.min(ordersNotBegun(house, lots), lots.length);
            int best = 0;
            int bestWorth = 0;
            int bestSteel = 0;
            for (int bits = 1; bits < 1 << orders; bits++) {
                int steel = 0;
                int hands = 0;
                int worth = 0;
                for (int i = 0; i < orders && i < lots.length; i++) {
                    if (isIn(bits, i)) {
                        steel += house.needOfAll(lots[i], SORT_STEEL);
                        hands += house.needOfAll(lots[i], SORT_HANDS);
                        worth += house.lots.get(lots[i], LOT_CRATES)
                                * house.priceIn(house.lots.get(lots[i], LOT_SORT), house.week);
                    }
                }
                boolean better = worth > bestWorth || worth == bestWorth && steel < bestSteel;
                if (steel <= house.steel && hands <= house.hands && better) {
                    best = bits;
                    bestWorth = worth;
                    bestSteel = steel;
                }
            }
            return best;
        }

        private static int sumIn(Table table, int column, int bits) {
            int sum = 0;
            for (int row = 0; row < table.size; row++) {
                if (isIn(bits, row)) {
                    sum += table.get(row, column);
                }
            }
            return sum;
        }

        static int pagesSigned(Table pages, int leastMaker, int leastOther) {
            int best = NONE;
            int bestMaker = 0;
            int bestOther = 0;
            for (int bits = 0; bits < 1 << pages.size; bits++) {
                int maker = sumIn(pages, PAGE_MAKER, bits);
                int other = sumIn(pages, PAGE_OTHER, bits);
                boolean better = best == NONE || maker > bestMaker || maker == bestMaker && other > bestOther;
                if (maker >= leastMaker && other >= leastOther && better) {
                    best = bits;
                    bestMaker = maker;
                    bestOther = other;
                }
            }
            return best;
        }

        static int choicesThatLast(House house) {
            int best = NONE;
            int bestCost = 0;
            for (int bits = 0; bits < 1 << house.choices.size; bits++) {
                int cost = 0;
                for (int year = 0; year < YEARS; year++) {
                    cost += yearly(house, bits, year, CHOICE_COST);
                }
                boolean better = best == NONE || cost < bestCost
                        || cost == bestCost && Integer.bitCount(bits) < Integer.bitCount(best);
                if (better && doesLast(house, bits)) {
                    best = bits;
                    bestCost = cost;
                }
            }
            return best;
        }

        private static boolean doesLast(House house, int bits) {
            for (int year = 0; year < YEARS; year++) {
                int cost = yearly(house, bits, year, CHOICE_COST);
                int goods = yearly(house, bits, year, CHOICE_GOODS);
                int food = yearly(house, bits, year, CHOICE_FOOD);
                for (int row = 0; row < ROWS; row++) {
                    int at = row * YEARS + year;
                    if (cost > house.years.get(at, YEAR_STEEL) || goods < house.years.get(at, YEAR_GOODS)
                            || food < house.years.get(at, YEAR_FOOD)) {
                        return false;
                    }
                }
            }
            return true;
        }

        /** What a set of CHOICES costs or brings in a YEAR. */
        private static int yearly(House house, int bits, int year, int column) {
            int sum = 0;
            for (int choice = 0; choice < house.choices.size; choice++) {
                if (isIn(bits, choice) && house.choices.get(choice, CHOICE_YEAR) <= year) {
                    sum += house.choices.get(choice, column);
                }
            }
            return sum;
        }
    }
}
