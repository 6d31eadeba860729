import java.util.Arrays;

/**
 * A field of small ploughs: wet land, light carts, works, plants, illness, rules and strips, and all of it
 * played again without one rain, cart or work. The words of the document (DOC.md) are used as it uses them.
 */
public final class PloughField {
    public static final int NONE = -1;

    private static final int NONE_SUCH = -2;
    private static final int NO_ANSWER = -2000000000;

    private static final int ROW = 8;
    private static final int CELLS = 64;
    private static final int SIDES = 4;
    private static final int LAST_HOUR = 719;
    private static final int DAY = 24;
    private static final int MOST_PASSED = 200;
    private static final int MOST_DAYS = 64;
    private static final int CELL_FACTS = 11;

    private static final int MOST_TOLD = 400;
    private static final int MOST_RAINS = 30;
    private static final int MOST_CARTS = 8;
    private static final int MOST_WORKS = 60;
    private static final int MOST_LOTS = 40;
    private static final int MOST_KINDS = 5;
    private static final int MOST_RULES = 8;
    private static final int MARKS = 4;

    // the calls marked TOLD, as the log names them
    private static final int LAND = 0;
    private static final int SET = 1;
    private static final int RAIN = 2;
    private static final int CART = 3;
    private static final int CHARGE = 4;
    private static final int WORK = 5;
    private static final int LOT = 6;
    private static final int KIND = 7;
    private static final int PLANT = 8;
    private static final int SHOW = 9;
    private static final int LOOK = 10;
    private static final int ILL = 11;

    // what again() leaves out
    private static final int WITHOUT_RAIN = 0;
    private static final int WITHOUT_CART = 1;
    private static final int WITHOUT_WORK = 2;

    // what set() names
    private static final int LIMIT = 0;
    private static final int BEARS = 1;
    private static final int ODDS = 2;
    private static final int REACH = 3;
    private static final int SETTINGS = 4;

    // kinds of works; a cart of the same number does them
    private static final int WORK_LOOK = 0;
    private static final int WORK_TAKE = 1;
    private static final int WORK_GIVE = 2;
    private static final int WORK_PULL = 3;
    private static final int MOST_GIVEN = 999;

    // what a cart does
    private static final int IDLE = 0;
    private static final int GOES = 1;
    private static final int HOMEWARD = 2;
    private static final int CHARGES = 3;
    private static final int STUCK = 4;
    private static final int FLAT = 5;
    private static final int AWAY = 6;

    // how a work stands
    private static final int OPEN = 0;
    private static final int TAKEN_ON = 1;
    private static final int DONE = 2;
    private static final int NEVER_OPEN = 3;

    // why a cell is bare
    private static final int NEVER_PLANTED = 1;
    private static final int BY_TAKING = 2;
    private static final int BY_WHEEL = 3;
    private static final int BY_DROWNING = 4;

    private final Book book;
    private final Paths paths;
    private final World live;
    private final World ghost;
    private final Reader reader;
    private final Machine machine;
    private final Strips strips;
    private final int[] facts;
    private int rulesTaken;
    private int faultPlace;

    public PloughField() {
        book = new Book();
        paths = new Paths();
        live = new World(book, paths);
        ghost = new World(book, paths);
        reader = new Reader();
        machine = new Machine();
        strips = new Strips();
        facts = new int[Machine.FACTS];
        rulesTaken = 0;
        faultPlace = NONE;
    }

    public boolean land(int cell, int height, int wet) {
        if (!isCell(cell) || !within(height, 0, 99) || !within(wet, 0, 999)) {
            return false;
        }
        return tell(LAND, cell, height, wet);
    }

    public boolean set(int what, int value) {
        if (!isSetting(what, value)) {
            return false;
        }
        return tell(SET, what, value, 0);
    }

    public int rain(int a, int b, int much) {
        if (a <= live.now || a > b || b > LAST_HOUR || !within(much, 1, 99) || !book.hasRoom(book.rains)) {
            return NONE;
        }
        book.rains.add(a, b, much, 0, 0, 0);
        return tellNewest(RAIN, book.rains);
    }

    public int cart(int kind, int weight, int sink, int home, int full) {
        if (!within(kind, 0, 3) || !within(weight, 1, 50) || !within(sink, 50, 999)
                || !isCell(home) || !within(full, 10, 500) || !book.hasRoom(book.carts)) {
            return NONE;
        }
        book.carts.add(kind, weight, sink, home, full, 0);
        return tellNewest(CART, book.carts);
    }

    public boolean charge(int cart) {
        if (!book.carts.has(cart) || !live.fleet.isFlat(cart)) {
            return false;
        }
        return tell(CHARGE, cart, 0, 0);
    }

    public int work(int kind, int cell, int much) {
        if (!within(kind, WORK_LOOK, WORK_PULL) || !isCell(cell)) {
            return NONE;
        }
        if (kind == WORK_GIVE ? !within(much, 1, MOST_GIVEN) : much != 0) {
            return NONE;
        }
        return addWork(kind, cell, much);
    }

    public int lot(int v) {
        if (!within(v, 0, 99) || !book.hasRoom(book.lots)) {
            return NONE;
        }
        book.lots.add(v, 0, 0, 0, 0, 0);
        return tellNewest(LOT, book.lots) + 1;
    }

    public int kind(boolean weed, int prior, int a, int b, int c, int d) {
        if (!within(prior, 1, 100) || !isOdds(a) || !isOdds(b) || !isOdds(c) || !isOdds(d)
                || !book.hasRoom(book.kinds)) {
            return NONE;
        }
        book.kinds.add(weed ? 1 : 0, prior, a, b, c, d);
        return tellNewest(KIND, book.kinds);
    }

    public boolean plant(int cell) {
        if (!isCell(cell) || live.plants.standsOn(cell) || book.kinds.size == 0) {
            return false;
        }
        return tell(PLANT, cell, 0, 0);
    }

    public boolean show(int cell, int marks) {
        if (!isCell(cell) || !areMarks(marks)) {
            return false;
        }
        return tell(SHOW, cell, marks, 0);
    }

    public boolean look(int cell, int marks) {
        if (!live.plants.standsOn(cell) || !areMarks(marks)) {
            return false;
        }
        return tell(LOOK, cell, marks, 0);
    }

    public boolean ill(int cell, boolean is) {
        if (!live.plants.standsOn(cell) || live.plants.isIll(cell) == is) {
            return false;
        }
        return tell(ILL, cell, is ? 1 : 0, 0);
    }

    public int pass(int n) {
        if (!within(n, 1, MOST_PASSED) || live.now + n > LAST_HOUR) {
            return NONE;
        }
        live.playTo(live.now + n);
        return live.now;
    }

    public int cell(int cell, int what) {
        if (!isCell(cell) || !within(what, 0, CELL_FACTS - 1)) {
            return NONE;
        }
        return live.factOfCell(cell, what);
    }

    public int share(int cell, int kind) {
        if (!live.plants.standsOn(cell) || !book.kinds.has(kind)) {
            return NONE;
        }
        return live.plants.shareOf(cell, kind);
    }

    public int told(int cart, int what) {
        if (!book.carts.has(cart)) {
            return NONE_SUCH;
        }
        return live.fleet.factOfCart(cart, what);
    }

    public int job(int work, int what) {
        if (!book.works.has(work)) {
            return NONE_SUCH;
        }
        switch (what) {
            case 0: return book.works.at(work, Book.WORK_KIND);
            case 1: return book.works.at(work, Book.WORK_CELL);
            case 2: return book.works.at(work, Book.WORK_MUCH);
            case 3: return live.stateOfWork(work);
            case 4: return live.doerOfWork(work);
            default: return NONE_SUCH;
        }
    }

    public int way(int cart, int cell, int what) {
        if (!book.carts.has(cart) || !isCell(cell)) {
            return NONE;
        }
        paths.search(cart, book.carts, live.fleet, live.ground, live.settings[LIMIT]);
        if (!paths.hasWay(cart, cell)) {
            return NONE;
        }
        switch (what) {
            case 0: return paths.costTo(cart, cell);
            case 1: return paths.stepsTo(cart, cell);
            case 2: return paths.firstTo(cart, cell);
            default: return NONE;
        }
    }

    public long water(int what) {
        switch (what) {
            case 0: return live.ground.allWet();
            case 1: return live.ground.fallen;
            case 2: return live.ground.lost;
            default: return NONE;
        }
    }

    public int spot(int n, int k) {
        if (!within(n, 0, MOST_DAYS) || k < 0) {
            return NONE;
        }
        return Outbreak.spotOf(live.plants.stands, live.plants.ill, n, k);
    }

    public int pull(int m, int n, int what) {
        if (!within(m, 1, 3) || !within(n, 0, MOST_DAYS) || live.plants.ill == 0L) {
            return NONE;
        }
        return Outbreak.pullOf(live.plants.stands, live.plants.ill, m, n, what);
    }

    public int strip(int arm, int crop) {
        if (!within(arm, 0, 1) || !within(crop, 0, 9999) || strips.dealt.isFull()) {
            return NONE;
        }
        strips.dealt.add(arm, crop, 0, 0, 0, 0);
        return strips.dealt.size - 1;
    }

    public int better(int what) {
        switch (what) {
            case 0: return strips.waysAsGood();
            case 1: return strips.allWays();
            case 2: return strips.lead();
            default: return NO_ANSWER;
        }
    }

    public int feed(int a, int b, int c, int d, int e) {
        if (!reader.hasRoomForFive()) {
            return NONE;
        }
        reader.append(a);
        reader.append(b);
        reader.append(c);
        reader.append(d);
        reader.append(e);
        return reader.bytes;
    }

    public int rules(int n) {
        if (n < 0 || n > reader.bytes) {
            return NONE_SUCH;
        }
        if (rulesTaken >= MOST_RULES) {
            return -3;
        }
        faultPlace = reader.read(n);
        if (faultPlace != NONE) {
            return NONE;
        }
        machine.takeOver(reader.code, reader.codeSize, reader.statements);
        rulesTaken++;
        return rulesTaken - 1;
    }

    public int fault() {
        return faultPlace;
    }

    public int act(int cell, int what) {
        if (!findsAct(cell)) {
            return NO_ANSWER;
        }
        switch (what) {
            case 0: return machine.statement;
            case 1: return machine.deed;
            case 2: return machine.deed == Machine.GIVE ? machine.much : 0;
            default: return NO_ANSWER;
        }
    }

    public int plan(int cell) {
        if (!findsAct(cell)) {
            return NONE;
        }
        switch (machine.deed) {
            case Machine.TAKE: return addWork(WORK_TAKE, cell, 0);
            case Machine.LOOK: return addWork(WORK_LOOK, cell, 0);
            case Machine.GIVE: return addWork(WORK_GIVE, cell, Math.max(1, Math.min(MOST_GIVEN, machine.much)));
            default: return NONE;
        }
    }

    public int again(int without, int number, int cell, int what) {
        if (!canLeaveOut(without, number) || !isCell(cell) || !within(what, 0, CELL_FACTS - 1)) {
            return NONE;
        }
        // what was played so far stays as it was, so the same question later only goes on from there
        if (!ghost.leavesOut(without, number)) {
            ghost.begin(without, number);
        }
        ghost.playTo(live.now);
        return ghost.factOfCell(cell, what);
    }

    public int count(int what) {
        switch (what) {
            case 0: return live.now;
            case 1: return book.log.size;
            case 2: return book.rains.size;
            case 3: return book.carts.size;
            case 4: return book.works.size;
            case 5: return live.worksThatAre(OPEN);
            case 6: return live.worksThatAre(DONE);
            case 7: return book.lots.size;
            case 8: return book.kinds.size;
            case 9: return Long.bitCount(live.plants.stands);
            case 10: return Long.bitCount(live.plants.ill);
            case 11: return strips.dealt.size;
            case 12: return rulesTaken;
            case 13: return machine.statements;
            case 14: return reader.bytes;
            case 15: return live.fleet.cartsStuck();
            case 16: return live.plants.allGot();
            default: return NONE;
        }
    }

    private boolean tell(int call, int a, int b, int c) {
        if (book.log.isFull()) {
            return false;
        }
        book.log.add(live.now, call, a, b, c, 0);
        live.hearTold();
        return true;
    }

    /** Tells of the newest row of a table, for which the book had room: its number. */
    private int tellNewest(int call, Table table) {
        int number = table.size - 1;
        book.log.add(live.now, call, number, 0, 0, 0);
        live.hearTold();
        return number;
    }

    private int addWork(int kind, int cell, int much) {
        if (!book.hasRoom(book.works)) {
            return NONE;
        }
        book.works.add(kind, cell, much, 0, 0, 0);
        return tellNewest(WORK, book.works);
    }

    private boolean findsAct(int cell) {
        if (!live.plants.standsOn(cell)) {
            return false;
        }
        live.gatherFacts(cell, facts);
        return machine.decide(facts);
    }

    private boolean canLeaveOut(int without, int number) {
        switch (without) {
            case WITHOUT_RAIN: return book.rains.has(number);
            case WITHOUT_CART: return book.carts.has(number);
            case WITHOUT_WORK: return book.works.has(number);
            default: return false;
        }
    }

    private static boolean within(int value, int least, int most) {
        return value >= least && value <= most;
    }

    private static boolean isCell(int cell) {
        return cell >= 0 && cell < CELLS;
    }

    private static boolean isOdds(int odds) {
        return within(odds, 1, 99);
    }

    private static boolean areMarks(int marks) {
        return within(marks, 0, 15);
    }

    private static boolean isSetting(int what, int value) {
        switch (what) {
            case LIMIT: return within(value, 1, 9999);
            case BEARS: return within(value, 1, 9999);
            case ODDS: return within(value, 0, 100);
            case REACH: return within(value, 0, 14);
            default: return false;
        }
    }

    /** The cell beside on side 0 to 3, in the order of their numbers; NONE where the field ends. */
    private static int beside(int cell, int side) {
        switch (side) {
            case 0: return cell >= ROW ? cell - ROW : NONE;
            case 1: return cell % ROW > 0 ? cell - 1 : NONE;
            case 2: return cell % ROW < ROW - 1 ? cell + 1 : NONE;
            default: return cell + ROW < CELLS ? cell + ROW : NONE;
        }
    }

    private static int far(int one, int other) {
        return Math.abs(one % ROW - other % ROW) + Math.abs(one / ROW - other / ROW);
    }

    private static long bit(int cell) {
        return 1L << cell;
    }

    /** Rows of numbers, all of one width, that only grow; outside of them every number is 0. */
    private static final class Table {
        private final int[] numbers;
        private final int width;
        private final int most;
        private int size;

        Table(int most, int width) {
            this.most = most;
            this.width = width;
            numbers = new int[most * width];
            size = 0;
        }

        boolean isFull() {
            return size >= most;
        }

        boolean has(int row) {
            return row >= 0 && row < size;
        }

        int at(int row, int column) {
            if (row < 0 || row >= size || column < 0 || column >= width) {
                return 0;
            }
            return numbers[row * width + column];
        }

        void add(int a, int b, int c, int d, int e, int f) {
            if (isFull()) {
                return;
            }
            size++;
            put(0, a);
            put(1, b);
            put(2, c);
            put(3, d);
            put(4, e);
            put(5, f);
        }

        private void put(int column, int value) {
            if (column < width && size > 0) {
                numbers[(size - 1) * width + column] = value;
            }
        }
    }

    /** All that was told, as it was told: the live world and the one played again both read it. */
    private static final class Book {
        private static final int LOG_HOUR = 0;
        private static final int LOG_CALL = 1;
        private static final int LOG_A = 2;
        private static final int LOG_B = 3;
        private static final int LOG_C = 4;
        private static final int RAIN_FROM = 0;
        private static final int RAIN_TO = 1;
        private static final int RAIN_MUCH = 2;
        private static final int CART_KIND = 0;
        private static final int CART_WEIGHT = 1;
        private static final int CART_SINK = 2;
        private static final int CART_HOME = 3;
        private static final int CART_FULL = 4;
        private static final int WORK_KIND = 0;
        private static final int WORK_CELL = 1;
        private static final int WORK_MUCH = 2;
        private static final int KIND_WEED = 0;
        private static final int KIND_PRIOR = 1;
        private static final int KIND_ODDS = 2;
        private static final int NO_RAIN = 900;

        private final Table log = new Table(MOST_TOLD, 5);
        private final Table rains = new Table(MOST_RAINS, 3);
        private final Table carts = new Table(MOST_CARTS, 5);
        private final Table works = new Table(MOST_WORKS, 3);
        private final Table kinds = new Table(MOST_KINDS, 6);
        private final Table lots = new Table(MOST_LOTS, 1);

        boolean hasRoom(Table table) {
            return !table.isFull() && !log.isFull();
        }

        int fallingAt(int hour, int leftOut) {
            int much = 0;
            for (int i = 0; i < rains.size; i++) {
                if (i != leftOut && rains.at(i, RAIN_FROM) <= hour && hour <= rains.at(i, RAIN_TO)) {
                    much += rains.at(i, RAIN_MUCH);
                }
            }
            return much;
        }

        int hoursToRain(int now) {
            int hours = NO_RAIN;
            for (int i = 0; i < rains.size; i++) {
                if (rains.at(i, RAIN_TO) > now) {
                    hours = Math.min(hours, Math.max(rains.at(i, RAIN_FROM), now + 1) - now);
                }
            }
            return hours;
        }
    }

    /** The ground: how high, how wet and how much pressed each cell is. */
    private static final class Ground {
        private static final int HELD_WET = 100;

        private final int[] height = new int[CELLS];
        private final int[] wet = new int[CELLS];
        private final int[] press = new int[CELLS];
        private final int[] change = new int[CELLS];
        private long fallen;
        private long lost;

        void begin() {
            Arrays.fill(height, 0);
            Arrays.fill(wet, 0);
            Arrays.fill(press, 0);
            fallen = 0L;
            lost = 0L;
        }

        void shape(int cell, int high, int water) {
            if (isCell(cell)) {
                height[cell] = high;
                wet[cell] = water;
            }
        }

        void rainOn(int much) {
            if (much == 0) {
                return;
            }
            for (int i = 0; i < CELLS; i++) {
                wet[i] += much;
            }
            fallen += (long) much * CELLS;
        }

        void flow() {
            Arrays.fill(change, 0);
            for (int i = 0; i < CELLS; i++) {
                int low = wet[i] > HELD_WET ? lowestBeside(i) : i;
                if (height[low] < height[i]) {
                    int half = (wet[i] - HELD_WET) / 2;
                    change[i] -= half;
                    change[low] += half;
                }
            }
            for (int i = 0; i < CELLS; i++) {
                wet[i] += change[i];
            }
        }

        void dry() {
            for (int i = 0; i < CELLS; i++) {
                if (wet[i] > 0) {
                    wet[i]--;
                    lost++;
                }
            }
        }

        long allWet() {
            long all = 0L;
            for (int i = 0; i < CELLS; i++) {
                all += wet[i];
            }
            return all;
        }

        int heavy(int weight, int cell) {
            return weight * (1 + wet[cell] / 100);
        }

        private int lowestBeside(int cell) {
            int low = cell;
            for (int side = 0; side < SIDES; side++) {
                int next = beside(cell, side);
                if (next >= 0 && height[next] < height[low]) {
                    low = next;
                }
            }
            return low;
        }
    }

    /** The plants, at most one a cell; which stand and which are ill are kept as bits, one a cell. */
    private static final class Plants {
        private static final int WHOLE = 1000000000;
        private static final int HUNDREDTH = 10000000;
        private static final int DROWNS_ABOVE = 600;
        private static final int GOOD_WET = 50;
        private static final int MOST_GOOD_WET = 300;

        private final Book book;
        private final int[] size = new int[CELLS];
        private final int[] seen = new int[CELLS];
        private final int[] got = new int[CELLS];
        private final int[] shown = new int[CELLS];
        private final int[] bare = new int[CELLS];
        private final int[] shares = new int[CELLS * MOST_KINDS];
        private final long[] weighed = new long[MOST_KINDS];
        private long stands;
        private long ill;
        private int nextLot;

        Plants(Book book) {
            this.book = book;
        }

        void begin() {
            Arrays.fill(shown, 0);
            Arrays.fill(bare, NEVER_PLANTED);
            stands = 0L;
            ill = 0L;
            nextLot = 0;
        }

        boolean standsOn(int cell) {
            return isCell(cell) && (stands & bit(cell)) != 0L;
        }

        boolean isIll(int cell) {
            return isCell(cell) && (ill & bit(cell)) != 0L;
        }

        void sow(int cell, int kindsTold) {
            if (!isCell(cell) || standsOn(cell)) {
                return;
            }
            stands |= bit(cell);
            size[cell] = 0;
            seen[cell] = 0;
            got[cell] = 0;
            bare[cell] = 0;
            long priors = 0L;
            for (int i = 0; i < kindsTold; i++) {
                priors += book.kinds.at(i, Book.KIND_PRIOR);
            }
            for (int i = 0; i < MOST_KINDS; i++) {
                long prior = i < kindsTold ? book.kinds.at(i, Book.KIND_PRIOR) : 0L;
                shares[cell * MOST_KINDS + i] = priors > 0L ? (int) (prior * WHOLE / priors) : 0;
            }
        }

        void expose(int cell, int marks) {
            if (isCell(cell)) {
                shown[cell] = marks;
            }
        }

        int marksOn(int cell) {
            return isCell(cell) ? shown[cell] : 0;
        }

        void see(int cell, int marks) {
            if (!standsOn(cell)) {
                return;
            }
            seen[cell]++;
            long all = 0L;
            for (int i = 0; i < MOST_KINDS; i++) {
                weighed[i] = weigh(i, shares[cell * MOST_KINDS + i], marks);
                all += weighed[i];
            }
            if (all <= 0L) {
                return;
            }
            for (int i = 0; i < MOST_KINDS; i++) {
                shares[cell * MOST_KINDS + i] = (int) (weighed[i] * WHOLE / all);
            }
        }

        private long weigh(int kind, long share, int marks) {
            long left = share;
            for (int mark = 0; mark < MARKS; mark++) {
                int odds = book.kinds.at(kind, Book.KIND_ODDS + mark);
                boolean isThere = (marks >> mark & 1) == 1;
                left = left * (isThere ? odds : 100 - odds) / 100;
            }
            return left;
        }

        int shareOf(int cell, int kind) {
            return isCell(cell) && within(kind, 0, MOST_KINDS - 1) ? shares[cell * MOST_KINDS + kind] : 0;
        }

        int weedHundredths(int cell) {
            long weeds = 0L;
            for (int i = 0; i < MOST_KINDS; i++) {
                if (book.kinds.at(i, Book.KIND_WEED) == 1) {
                    weeds += shareOf(cell, i);
                }
            }
            return (int) (weeds / HUNDREDTH);
        }

        void sicken(int cell, boolean is) {
            if (!standsOn(cell)) {
                return;
            }
            ill = is ? ill | bit(cell) : ill & ~bit(cell);
        }

        void nourish(int cell, int much) {
            if (standsOn(cell)) {
                got[cell] += much;
            }
        }

        void remove(int cell, int why) {
            if (standsOn(cell)) {
                stands &= ~bit(cell);
                ill &= ~bit(cell);
                bare[cell] = why;
            }
        }

        void drown(Ground ground) {
            for (int i = 0; i < CELLS; i++) {
                if (ground.wet[i] > DROWNS_ABOVE) {
                    remove(i, BY_DROWNING);
                }
            }
        }

        void spread(int odds, int lotsTold) {
            long sick = ill;
            if (lotsTold < 1 || sick == 0L) {
                return;
            }
            for (int i = 0; i < CELLS; i++) {
                if ((stands & ~sick & bit(i)) == 0L) {
                    continue;
                }
                for (int side = 0; side < SIDES; side++) {
                    int next = beside(i, side);
                    if (next >= 0 && (sick & bit(next)) != 0L && drawLot(lotsTold) < odds) {
                        ill |= bit(i);
                    }
                }
            }
        }

        private int drawLot(int lotsTold) {
            int drawn = book.lots.at(nextLot, 0);
            nextLot = nextLot + 1 < lotsTold ? nextLot + 1 : 0;
            return drawn;
        }

        void grow(Ground ground) {
            for (int i = 0; i < CELLS; i++) {
                if (standsOn(i)) {
                    size[i] += within(ground.wet[i], GOOD_WET, MOST_GOOD_WET) ? 2 : 1;
                }
            }
        }

        int allGot() {
            int all = 0;
            for (int i = 0; i < CELLS; i++) {
                if (standsOn(i)) {
                    all += got[i];
                }
            }
            return all;
        }
    }

    /** The carts as they are: where, with how much charge, doing what, and what they have heard of. */
    private static final class Fleet {
        private static final int CHARGED_AN_HOUR = 10;
        private static final int HEARD_FROM = 100;

        private final Book book;
        private final int[] place = new int[MOST_CARTS];
        private final int[] power = new int[MOST_CARTS];
        private final int[] doing = new int[MOST_CARTS];
        private final int[] task = new int[MOST_CARTS];
        private final long[] map = new long[MOST_CARTS];

        Fleet(Book book) {
            this.book = book;
        }

        void begin() {
            Arrays.fill(doing, AWAY);
            Arrays.fill(task, NONE);
            Arrays.fill(place, 0);
            Arrays.fill(power, 0);
            Arrays.fill(map, 0L);
        }

        void bring(int cart) {
            if (isPlace(cart)) {
                place[cart] = book.carts.at(cart, Book.CART_HOME);
                power[cart] = book.carts.at(cart, Book.CART_FULL);
                doing[cart] = IDLE;
            }
        }

        void refill(int cart) {
            if (isFlat(cart)) {
                power[cart] = book.carts.at(cart, Book.CART_FULL);
                doing[cart] = IDLE;
            }
        }

        boolean isFlat(int cart) {
            return isPlace(cart) && doing[cart] == FLAT;
        }

        void plugIn(int cart) {
            int full = book.carts.at(cart, Book.CART_FULL);
            power[cart] = Math.min(full, power[cart] + CHARGED_AN_HOUR);
            doing[cart] = power[cart] == full ? IDLE : CHARGES;
        }

        boolean isReady(int cart) {
            return doing[cart] == IDLE && hasPower(cart);
        }

        boolean hasPower(int cart) {
            return 4 * power[cart] >= book.carts.at(cart, Book.CART_FULL);
        }

        boolean isHome(int cart) {
            return place[cart] == book.carts.at(cart, Book.CART_HOME);
        }

        /** The carts that can take on a work, one bit each. */
        int readyOnes() {
            int ready = 0;
            for (int i = 0; i < MOST_CARTS; i++) {
                if (isReady(i)) {
                    ready |= 1 << i;
                }
            }
            return ready;
        }

        void freeOneStuck(int cell, int to) {
            for (int i = 0; i < MOST_CARTS; i++) {
                if (doing[i] == STUCK && place[i] == cell) {
                    place[i] = to;
                    doing[i] = IDLE;
                    return;
                }
            }
        }

        void hearOf(int cell, int reach) {
            for (int i = 0; i < MOST_CARTS; i++) {
                if (doing[i] != AWAY && far(place[i], cell) <= reach) {
                    map[i] |= bit(cell);
                }
            }
        }

        int cartsStuck() {
            int stuck = 0;
            for (int i = 0; i < MOST_CARTS; i++) {
                if (doing[i] == STUCK) {
                    stuck++;
                }
            }
            return stuck;
        }

        int factOfCart(int cart, int what) {
            if (!isPlace(cart)) {
                return NONE_SUCH;
            }
            switch (what) {
                case 0: return book.carts.at(cart, Book.CART_KIND);
                case 1: return place[cart];
                case 2: return power[cart];
                case 3: return doing[cart];
                case 4: return task[cart];
                case 5: return Long.bitCount(map[cart]);
                default:
                    if (!within(what, HEARD_FROM, HEARD_FROM + CELLS - 1)) {
                        return NONE_SUCH;
                    }
                    return (map[cart] & bit(what - HEARD_FROM)) != 0L ? 1 : 0;
            }
        }

        private static boolean isPlace(int cart) {
            return cart >= 0 && cart < MOST_CARTS;
        }
    }

    /**
     * The ways of each cart from where it is to all cells. A way is weighed by one number, its cost times
     * 128 and the cells it enters (at most 63), so that of several of one cost the fewest cells win.
     */
    private static final class Paths {
        private static final int COST = 128;
        private static final int NO_WAY = 2000000000;

        private final int[] keys = new int[MOST_CARTS * CELLS];
        private final int[] firsts = new int[MOST_CARTS * CELLS];
        private final int[] toll = new int[CELLS];
        private final int[] edge = new int[CELLS];
        private int edgeSize;

        /** Finds all ways of a cart as all is now; what it found holds until the next search for that cart. */
        void search(int cart, Table carts, Fleet fleet, Ground ground, int limit) {
            if (!within(cart, 0, MOST_CARTS - 1)) {
                return;
            }
            int row = cart * CELLS;
            int weight = carts.at(cart, Book.CART_WEIGHT);
            for (int i = 0; i < CELLS; i++) {
                keys[row + i] = NO_WAY;
                int heavy = ground.heavy(weight, i);
                boolean isShut = (fleet.map[cart] & bit(i)) != 0L || ground.press[i] + heavy > limit;
                toll[i] = isShut ? 0 : heavy * COST + 1;
            }
            int start = fleet.place[cart];
            if (!isCell(start)) {
                return;
            }
            keys[row + start] = 0;
            firsts[row + start] = start;
            edge[0] = start;
            edgeSize = 1;
            for (int i = 0; i < CELLS && edgeSize > 0; i++) {
                goOnFrom(row, takeNearest(row), start);
            }
        }

        private int takeNearest(int row) {
            int best = 0;
            for (int i = 1; i < edgeSize; i++) {
                if (keys[row + edge[i]] < keys[row + edge[best]]) {
                    best = i;
                }
            }
            int nearest = edge[best];
            edgeSize--;
            edge[best] = edge[edgeSize];
            return nearest;
        }

        // every toll is above 0, so a cell that was taken already never gets a smaller or an equal key
        private void goOnFrom(int row, int cell, int start) {
            for (int side = 0; side < SIDES; side++) {
                int next = beside(cell, side);
                if (next < 0 || toll[next] == 0) {
                    continue;
                }
                int key = keys[row + cell] + toll[next];
                int first = cell == start ? next : firsts[row + cell];
                if (key < keys[row + next]) {
                    if (keys[row + next] == NO_WAY && edgeSize < CELLS) {
                        edge[edgeSize] = next;
                        edgeSize++;
                    }
                    keys[row + next] = key;
                    firsts[row + next] = first;
                } else if (key == keys[row + next]) {
                    firsts[row + next] = Math.min(firsts[row + next], first);
                }
            }
        }

        boolean hasWay(int cart, int cell) {
            if (cart < 0 || cart >= MOST_CARTS || cell < 0 || cell >= CELLS) {
                return false;
            }
            return keys[cart * CELLS + cell] < NO_WAY;
        }

        int costTo(int cart, int cell) {
            return hasWay(cart, cell) ? keys[cart * CELLS + cell] / COST : NONE;
        }

        int stepsTo(int cart, int cell) {
            return hasWay(cart, cell) ? keys[cart * CELLS + cell] % COST : NONE;
        }

        int firstTo(int cart, int cell) {
            return hasWay(cart, cell) ? firsts[cart * CELLS + cell] : NONE;
        }

        /** The cell beside the given one to which the cart's best way goes; NONE without a way. */
        int nearestBeside(int cart, int cell) {
            int best = NONE;
            for (int side = 0; side < SIDES; side++) {
                int next = beside(cell, side);
                if (hasWay(cart, next) && (best < 0 || isNearer(cart * CELLS, next, best))) {
                    best = next;
                }
            }
            return best;
        }

        private boolean isNearer(int row, int one, int other) {
            if (keys[row + one] != keys[row + other]) {
                return keys[row + one] < keys[row + other];
            }
            return firsts[row + one] < firsts[row + other];
        }
    }

    /** The field at one hour. It is moved on by the log alone, so that it can be played again. */
    private static final class World {
        private final Book book;
        private final Paths paths;
        private final Ground ground;
        private final Plants plants;
        private final Fleet fleet;
        private final int[] workState = new int[MOST_WORKS];
        private final int[] workDoer = new int[MOST_WORKS];
        private final int[] settings = new int[SETTINGS];
        private int now;
        private int heard;
        private int kindsTold;
        private int lotsTold;
        private int without;
        private int leftOut;

        World(Book book, Paths paths) {
            this.book = book;
            this.paths = paths;
            ground = new Ground();
            plants = new Plants(book);
            fleet = new Fleet(book);
            begin(NONE, NONE);
        }

        void begin(int withoutWhat, int number) {
            ground.begin();
            plants.begin();
            fleet.begin();
            Arrays.fill(workState, NEVER_OPEN);
            Arrays.fill(workDoer, NONE);
            settings[LIMIT] = 500;
            settings[BEARS] = 200;
            settings[ODDS] = 30;
            settings[REACH] = 3;
            now = 0;
            heard = 0;
            kindsTold = 0;
            lotsTold = 0;
            without = withoutWhat;
            leftOut = number;
        }

        boolean leavesOut(int what, int number) {
            return without == what && leftOut == number;
        }

        void playTo(int hour) {
            hearTold();
            for (int i = now; i < hour; i++) {
                passHour();
                hearTold();
            }
        }

        /** Hears all that was told up to now and that it hasn't heard yet. */
        void hearTold() {
            for (int i = heard; i < book.log.size && book.log.at(i, Book.LOG_HOUR) <= now; i++) {
                hear(i);
                heard++;
            }
        }

        private void hear(int row) {
            int a = book.log.at(row, Book.LOG_A);
            int b = book.log.at(row, Book.LOG_B);
            switch (book.log.at(row, Book.LOG_CALL)) {
                case LAND: ground.shape(a, b, book.log.at(row, Book.LOG_C)); break;
                case SET: adjust(a, b); break;
                case CART: bringCart(a); break;
                case CHARGE: fleet.refill(a); break;
                case WORK: openWork(a); break;
                case LOT: lotsTold++; break;
                case KIND: kindsTold++; break;
                case PLANT: plants.sow(a, kindsTold); break;
                case SHOW: plants.expose(a, b); break;
                case LOOK: plants.see(a, b); break;
                case ILL: plants.sicken(a, b == 1); break;
                default: break; // a rain lies later than its telling: the book has it when it falls
            }
        }

        private void adjust(int what, int value) {
            if (within(what, 0, SETTINGS - 1)) {
                settings[what] = value;
            }
        }

        private void bringCart(int cart) {
            if (!leavesOut(WITHOUT_CART, cart)) {
                fleet.bring(cart);
            }
        }

        private void openWork(int work) {
            if (within(work, 0, MOST_WORKS - 1) && !leavesOut(WITHOUT_WORK, work)) {
                workState[work] = OPEN;
            }
        }

        private void passHour() {
            now++;
            ground.rainOn(book.fallingAt(now, without == WITHOUT_RAIN ? leftOut : NONE));
            ground.flow();
            ground.dry();
            makeOffers();
            for (int i = 0; i < MOST_CARTS; i++) {
                takeTurn(i);
            }
            if (now % DAY == 0) {
                plants.drown(ground);
                plants.spread(settings[ODDS], lotsTold);
                plants.grow(ground);
            }
        }

        // the ground stays as it is while offers are made, so one search a cart is enough
        private void makeOffers() {
            int ready = fleet.readyOnes();
            int searched = 0;
            for (int work = 0; work < MOST_WORKS && ready != 0; work++) {
                if (workState[work] != OPEN) {
                    continue;
                }
                int fit = ready & ofKind(book.works.at(work, Book.WORK_KIND));
                for (int cart = 0; cart < MOST_CARTS; cart++) {
                    if ((fit & ~searched & 1 << cart) != 0) {
                        paths.search(cart, book.carts, fleet, ground, settings[LIMIT]);
                    }
                }
                searched |= fit;
                int taker = cheapest(fit, work);
                if (taker >= 0) {
                    takeOn(taker, work);
                    ready &= ~(1 << taker);
                }
            }
        }

        private int ofKind(int kind) {
            int carts = 0;
            for (int i = 0; i < book.carts.size; i++) {
                if (book.carts.at(i, Book.CART_KIND) == kind) {
                    carts |= 1 << i;
                }
            }
            return carts;
        }

        private int cheapest(int fit, int work) {
            int best = NONE;
            int least = 0;
            for (int cart = 0; cart < MOST_CARTS; cart++) {
                int goal = (fit & 1 << cart) != 0 ? goalOf(cart, work) : NONE;
                if (!paths.hasWay(cart, goal)) {
                    continue;
                }
                int cost = paths.costTo(cart, goal);
                if (best < 0 || cost < least) {
                    best = cart;
                    least = cost;
                }
            }
            return best;
        }

        private int goalOf(int cart, int work) {
            int cell = book.works.at(work, Book.WORK_CELL);
            return book.works.at(work, Book.WORK_KIND) == WORK_PULL ? paths.nearestBeside(cart, cell) : cell;
        }

        private void takeOn(int cart, int work) {
            workState[work] = TAKEN_ON;
            workDoer[work] = cart;
            fleet.task[cart] = work;
            fleet.doing[cart] = GOES;
        }

        private void takeTurn(int cart) {
            if (fleet.doing[cart] == CHARGES) {
                fleet.plugIn(cart);
                return;
            }
            if (fleet.doing[cart] == IDLE && !fleet.hasPower(cart)) {
                fleet.doing[cart] = HOMEWARD;
            }
            if (fleet.doing[cart] == GOES) {
                if (isAtWork(cart, fleet.task[cart])) {
                    doWork(cart, fleet.task[cart]);
                } else {
                    move(cart);
                }
            } else if (fleet.doing[cart] == HOMEWARD) {
                if (fleet.isHome(cart)) {
                    fleet.plugIn(cart);
                } else {
                    move(cart);
                }
            }
        }

        private boolean isAtWork(int cart, int work) {
            int away = far(fleet.place[cart], book.works.at(work, Book.WORK_CELL));
            return book.works.at(work, Book.WORK_KIND) == WORK_PULL ? away == 1 : away == 0;
        }

        private void doWork(int cart, int work) {
            int cell = book.works.at(work, Book.WORK_CELL);
            switch (book.works.at(work, Book.WORK_KIND)) {
                case WORK_LOOK: plants.see(cell, plants.marksOn(cell)); break;
                case WORK_TAKE: plants.remove(cell, BY_TAKING); break;
                case WORK_GIVE: plants.nourish(cell, book.works.at(work, Book.WORK_MUCH)); break;
                default: fleet.freeOneStuck(cell, fleet.place[cart]); break;
            }
            if (within(work, 0, MOST_WORKS - 1)) {
                workState[work] = DONE;
            }
            fleet.task[cart] = NONE;
            fleet.doing[cart] = IDLE;
        }

        private void move(int cart) {
            paths.search(cart, book.carts, fleet, ground, settings[LIMIT]);
            int work = fleet.task[cart];
            boolean isHomeward = fleet.doing[cart] == HOMEWARD;
            int next = paths.firstTo(cart, isHomeward ? book.carts.at(cart, Book.CART_HOME) : goalOf(cart, work));
            if (!isCell(next)) {
                if (!isHomeward) {
                    leaveWork(cart, IDLE);
                }
                return;
            }
            if (fleet.power[cart] == 0) {
                leaveWork(cart, FLAT);
                return;
            }
            fleet.power[cart]--;
            fleet.place[cart] = next;
            ground.press[next] += ground.heavy(book.carts.at(cart, Book.CART_WEIGHT), next);
            if (ground.press[next] > settings[BEARS]) {
                plants.remove(next, BY_WHEEL);
            }
            if (ground.wet[next] > book.carts.at(cart, Book.CART_SINK)) {
                leaveWork(cart, STUCK);
                fleet.hearOf(next, settings[REACH]);
            }
        }

        private void leaveWork(int cart, int doing) {
            int work = fleet.task[cart];
            if (within(work, 0, MOST_WORKS - 1)) {
                workState[work] = OPEN;
                workDoer[work] = NONE;
            }
            fleet.task[cart] = NONE;
            fleet.doing[cart] = doing;
        }

        int factOfCell(int cell, int what) {
            if (!isCell(cell)) {
                return NONE;
            }
            boolean stands = plants.standsOn(cell);
            switch (what) {
                case 0: return ground.height[cell];
                case 1: return ground.wet[cell];
                case 2: return ground.press[cell];
                case 3: return stands ? 1 : 0;
                case 4: return stands ? plants.size[cell] : 0;
                case 5: return plants.isIll(cell) ? 1 : 0;
                case 6: return stands ? plants.seen[cell] : 0;
                case 7: return stands ? plants.got[cell] : 0;
                case 8: return plants.marksOn(cell);
                case 9: return stands ? plants.weedHundredths(cell) : 0;
                case 10: return plants.bare[cell];
                default: return NONE;
            }
        }

        /** What the words of the rules say of the plant on a cell, in the order of the words. */
        void gatherFacts(int cell, int[] facts) {
            if (!isCell(cell) || facts.length < Machine.FACTS) {
                return;
            }
            facts[0] = plants.weedHundredths(cell);
            facts[1] = ground.wet[cell];
            facts[2] = ground.press[cell];
            facts[3] = plants.seen[cell];
            facts[4] = plants.size[cell];
            facts[5] = plants.isIll(cell) ? 1 : 0;
            facts[6] = book.hoursToRain(now);
            facts[7] = plants.got[cell];
        }

        int stateOfWork(int work) {
            return within(work, 0, MOST_WORKS - 1) ? workState[work] : NONE;
        }

        int doerOfWork(int work) {
            return within(work, 0, MOST_WORKS - 1) ? workDoer[work] : NONE;
        }

        int worksThatAre(int state) {
            int works = 0;
            for (int i = 0; i < MOST_WORKS; i++) {
                if (workState[i] == state) {
                    works++;
                }
            }
            return works;
        }
    }

    /** Where an illness may have come from and what to pull: sets of cells are bits, one a cell. */
    private static final class Outbreak {
        private static final long FIRST_COLUMN = 0x0101010101010101L;
        private static final long LAST_COLUMN = 0x8080808080808080L;
        private static final int MOST_PULLED_FROM = 8;

        static int spotOf(long stands, long ill, int days, int k) {
            if (ill == 0L) {
                return NONE;
            }
            int spots = 0;
            for (int i = 0; i < CELLS; i++) {
                if ((stands & bit(i)) == 0L || (ill & ~reached(bit(i), stands, days)) != 0L) {
                    continue;
                }
                if (spots == k) {
                    return i;
                }
                spots++;
            }
            return NONE;
        }

        static int pullOf(long stands, long ill, int most, int days, int what) {
            long near = stepped(ill, stands) & ~ill;
            int choices = Math.min(MOST_PULLED_FROM, Long.bitCount(near));
            if (within(what, 10, 9 + choices)) {
                return cellNumbered(near, what - 10);
            }
            if (what != 0 && !within(what, 20, 19 + choices)) {
                return NONE;
            }
            int best = 0;
            int least = cellsReached(stands, ill, days, near, 0);
            for (int set = 1; set < 1 << choices; set++) {
                if (Integer.bitCount(set) > most) {
                    continue;
                }
                int cells = cellsReached(stands, ill, days, near, set);
                if (cells < least || cells == least && Integer.bitCount(set) < Integer.bitCount(best)) {
                    best = set;
                    least = cells;
                }
            }
            return what == 0 ? least : best >> what - 20 & 1;
        }

        private static int cellsReached(long stands, long ill, int days, long near, int set) {
            long left = stands;
            int k = 0;
            for (int i = 0; i < CELLS && set >> k != 0; i++) {
                if ((near & bit(i)) != 0L) {
                    if ((set >> k & 1) == 1) {
                        left &= ~bit(i);
                    }
                    k++;
                }
            }
            return Long.bitCount(reached(ill, left, days));
        }

        private static int cellNumbered(long cells, int k) {
            int passed = 0;
            for (int i = 0; i < CELLS; i++) {
                if ((cells & bit(i)) != 0L) {
                    if (passed == k) {
                        return i;
                    }
                    passed++;
                }
            }
            return NONE;
        }

        private static long reached(long from, long through, int steps) {
            long cells = from;
            for (int i = 0; i < steps; i++) {
                long more = stepped(cells, through);
                if (more == cells) {
                    return cells;
                }
                cells = more;
            }
            return cells;
        }

        private static long stepped(long from, long through) {
            long aside = (from & ~LAST_COLUMN) << 1 | (from & ~FIRST_COLUMN) >>> 1;
            return (from | aside | from << ROW | from >>> ROW) & through;
        }
    }

    /** The strips that were dealt to the two arms. */
    private static final class Strips {
        private static final int MOST_STRIPS = 12;
        private static final int ARM = 0;
        private static final int CROP = 1;

        private final Table dealt = new Table(MOST_STRIPS, 2);

        int lead() {
            return leadOf(armsAsDealt());
        }

        int allWays() {
            return waysWithLead(-2000000000);
        }

        int waysAsGood() {
            return waysWithLead(lead());
        }

        private int waysWithLead(int least) {
            int ones = Integer.bitCount(armsAsDealt());
            int ways = 0;
            for (int arms = 0; arms < 1 << dealt.size; arms++) {
                if (Integer.bitCount(arms) == ones && leadOf(arms) >= least) {
                    ways++;
                }
            }
            return ways;
        }

        /** The strips of arm 1, one bit each. */
        private int armsAsDealt() {
            int arms = 0;
            for (int i = 0; i < dealt.size; i++) {
                arms |= dealt.at(i, ARM) << i;
            }
            return arms;
        }

        private int leadOf(int arms) {
            int ones = Integer.bitCount(arms);
            int cropOfOnes = 0;
            int cropOfOthers = 0;
            for (int i = 0; i < dealt.size; i++) {
                if ((arms >> i & 1) == 1) {
                    cropOfOnes += dealt.at(i, CROP);
                } else {
                    cropOfOthers += dealt.at(i, CROP);
                }
            }
            return cropOfOnes * (dealt.size - ones) - cropOfOthers * ones;
        }
    }

    /**
     * The tape, and the reader of rules on it: it makes code for the machine, each part behind the parts it
     * works on. A token is 0 at the end, a word's number in WORDS, a sign's byte, or NUMBERS and the number.
     */
    private static final class Reader {
        private static final String WORDS =
                "take look leave give if or and not weed wet press looks size ill rain given ";
        private static final String SIGNS = ";+-*/()[]<>=";
        private static final int BAD = -1;
        private static final int END = 0;
        private static final int TAKE = 1;
        private static final int GIVE = 4;
        private static final int IF = 5;
        private static final int OR = 6;
        private static final int AND = 7;
        private static final int NOT = 8;
        private static final int WEED = 9;
        private static final int GIVEN = 16;
        private static final int NUMBERS = 1000;
        private static final int BLANK = 0;
        private static final int LETTER = 1;
        private static final int DIGIT = 2;
        private static final int OTHER = 3;
        private static final int MOST_BYTES = 500;
        private static final int BYTES_FED = 20;
        private static final int MOST_STATEMENTS = 24;
        private static final int MOST_OPEN = 9;
        private static final int MOST_DIGITS = 5;
        private static final int MOST_CODE = MOST_BYTES + 2 * MOST_STATEMENTS;

        private final int[] tape = new int[MOST_BYTES];
        private final int[] tokens = new int[MOST_BYTES + 1];
        private final int[] places = new int[MOST_BYTES + 1];
        private final int[] code = new int[MOST_CODE];
        private int bytes;
        private int tokenCount;
        private int cursor;
        private int codeSize;
        private int statements;

        boolean hasRoomForFive() {
            return bytes + BYTES_FED <= MOST_BYTES;
        }

        void append(int number) {
            for (int shift = 24; shift >= 0 && bytes < MOST_BYTES; shift -= 8) {
                tape[bytes] = number >> shift & 255;
                bytes++;
            }
        }

        /** Reads the first bytes of the tape, which is empty then: the place of the fault, or NONE. */
        int read(int length) {
            split(Math.min(length, bytes));
            bytes = 0;
            cursor = 0;
            codeSize = 0;
            statements = 0;
            boolean isGood = true;
            for (int i = 0; i < MOST_STATEMENTS && isGood && here() != END; i++) {
                isGood = readStatement();
            }
            return isGood && here() == END ? NONE : placeHere();
        }

        private void split(int length) {
            tokenCount = 0;
            int before = BLANK;
            for (int i = 0; i < length; i++) {
                int group = groupOf(tape[i]);
                if (group != BLANK && (group == OTHER || group != before)) {
                    addToken(tokenFrom(i, length, group), i);
                }
                before = group;
            }
            addToken(END, length);
        }

        private void addToken(int token, int place) {
            if (tokenCount < tokens.length) {
                tokens[tokenCount] = token;
                places[tokenCount] = place;
                tokenCount++;
            }
        }

        private int tokenFrom(int place, int length, int group) {
            if (group == OTHER) {
                return SIGNS.indexOf((char) tape[place]) >= 0 ? tape[place] : BAD;
            }
            int end = place;
            while (end < length && groupOf(tape[end]) == group) {
                end++;
            }
            return group == LETTER ? wordBetween(place, end) : numberBetween(place, end);
        }

        private int wordBetween(int place, int end) {
            int word = 1;
            int fits = 0;
            for (int i = 0; i < WORDS.length(); i++) {
                char letter = WORDS.charAt(i);
                if (letter == ' ') {
                    if (fits == end - place) {
                        return word;
                    }
                    word++;
                    fits = 0;
                } else if (fits >= 0 && place + fits < end && tape[place + fits] == letter) {
                    fits++;
                } else {
                    fits = -1;
                }
            }
            return BAD;
        }

        private int numberBetween(int place, int end) {
            if (end - place > MOST_DIGITS) {
                return BAD;
            }
            int number = 0;
            for (int i = place; i < end; i++) {
                number = number * 10 + tape[i] - '0';
            }
            return NUMBERS + number;
        }

        private static int groupOf(int sign) {
            if (sign == ' ' || sign == '\n') {
                return BLANK;
            }
            if (sign >= 'a' && sign <= 'z') {
                return LETTER;
            }
            return sign >= '0' && sign <= '9' ? DIGIT : OTHER;
        }

        private boolean readStatement() {
            int deed = here();
            if (!within(deed, TAKE, GIVE)) {
                return false;
            }
            cursor++;
            if (deed != GIVE) {
                emit(0);
            } else if (!readSum(0)) {
                return false;
            }
            if (!accept(IF)) {
                emit(1);
            } else if (!readAny(0)) {
                return false;
            }
            if (!accept(';')) {
                return false;
            }
            emit(-deed);
            statements++;
            return true;
        }

        // ANY and ALL in one: an "or" waits until what is joined by "and" behind it has been read
        private boolean readAny(int open) {
            boolean isOrWaiting = false;
            boolean isGood = readOne(open);
            for (int i = 0; i < MOST_BYTES && isGood && (here() == AND || here() == OR); i++) {
                boolean isAnd = here() == AND;
                cursor++;
                if (!isAnd && isOrWaiting) {
                    emit(-OR);
                }
                isGood = readOne(open);
                if (isAnd) {
                    emit(-AND);
                } else {
                    isOrWaiting = true;
                }
            }
            if (isOrWaiting) {
                emit(-OR);
            }
            return isGood;
        }

        private boolean readOne(int open) {
            int token = here();
            if (token == NOT || token == '[') {
                if (open >= MOST_OPEN) {
                    return false;
                }
                cursor++;
                if (token == '[') {
                    return readAny(open + 1) && accept(']');
                }
                boolean isGood = readOne(open + 1);
                emit(-NOT);
                return isGood;
            }
            if (!readSum(open)) {
                return false;
            }
            int sign = here();
            if (sign != '<' && sign != '>' && sign != '=') {
                return false;
            }
            cursor++;
            boolean isGood = readSum(open);
            emit(-sign);
            return isGood;
        }

        // EX and PROD in one: a "+" or "-" waits until the product behind it has been read
        private boolean readSum(int open) {
            int waiting = 0;
            boolean isGood = readAtom(open);
            for (int i = 0; i < MOST_BYTES && isGood && isOperator(here()); i++) {
                int sign = here();
                cursor++;
                boolean isProduct = sign == '*' || sign == '/';
                if (!isProduct && waiting != 0) {
                    emit(-waiting);
                }
                isGood = readAtom(open);
                if (isProduct) {
                    emit(-sign);
                } else {
                    waiting = sign;
                }
            }
            if (waiting != 0) {
                emit(-waiting);
            }
            return isGood;
        }

        private boolean readAtom(int open) {
            int token = here();
            if (token >= NUMBERS) {
                emit(token - NUMBERS);
                cursor++;
                return true;
            }
            if (within(token, WEED, GIVEN)) {
                emit(-token);
                cursor++;
                return true;
            }
            if (token != '(' || open >= MOST_OPEN) {
                return false;
            }
            cursor++;
            return readSum(open + 1) && accept(')');
        }

        private static boolean isOperator(int token) {
            return token == '+' || token == '-' || token == '*' || token == '/';
        }

        private int here() {
            return cursor >= 0 && cursor < tokenCount ? tokens[cursor] : END;
        }

        private int placeHere() {
            return cursor >= 0 && cursor < tokenCount ? places[cursor] : 0;
        }

        private boolean accept(int token) {
            boolean fits = cursor >= 0 && cursor < tokenCount && tokens[cursor] == token;
            if (fits) {
                cursor++;
            }
            return fits;
        }

        private void emit(int part) {
            if (codeSize < code.length) {
                code[codeSize] = part;
                codeSize++;
            }
        }
    }

    /**
     * The rules in force. Its code: a number from 0 on is put on the stack, one below 0 is a token of the
     * reader that works on what lies there; a deed ends its statement over what it tells and whether it holds.
     */
    private static final class Machine {
        private static final int FACTS = 8;
        private static final int MOST_STACKED = 64;
        private static final long MOST_HELD = 1000000000L;
        private static final int TAKE = 0;
        private static final int LOOK = 1;
        private static final int GIVE = 3;

        private final int[] code = new int[Reader.MOST_CODE];
        private final int[] stack = new int[MOST_STACKED];
        private int codeSize;
        private int statements;
        private int stacked;
        private int statement;
        private int deed;
        private int much;

        void takeOver(int[] parts, int size, int howMany) {
            codeSize = Math.min(size, Math.min(parts.length, code.length));
            System.arraycopy(parts, 0, code, 0, codeSize);
            statements = howMany;
        }

        /** Finds the first statement that holds, what it is and what it tells; false: none. */
        boolean decide(int[] facts) {
            stacked = 0;
            statement = 0;
            for (int i = 0; i < codeSize; i++) {
                int part = code[i];
                if (part >= 0) {
                    push(part);
                } else if (part >= -Reader.GIVE) {
                    int holds = pop();
                    much = pop();
                    deed = -part - Reader.TAKE;
                    if (holds != 0) {
                        return true;
                    }
                    statement++;
                } else {
                    apply(-part, facts);
                }
            }
            return false;
        }

        private void apply(int token, int[] facts) {
            int fact = token - Reader.WEED;
            if (token == Reader.NOT) {
                push(pop() == 0 ? 1 : 0);
            } else if (fact >= 0 && fact < FACTS && fact < facts.length) {
                push(facts[fact]);
            } else {
                int right = pop();
                int left = pop();
                push(joined(token, left, right));
            }
        }

        private static int joined(int token, long left, long right) {
            switch (token) {
                case '+': return held(left + right);
                case '-': return held(left - right);
                case '*': return held(left * right);
                case '/': return right == 0L ? 0 : held(left / right);
                case '<': return left < right ? 1 : 0;
                case '>': return left > right ? 1 : 0;
                case '=': return left == right ? 1 : 0;
                case Reader.AND: return left != 0L && right != 0L ? 1 : 0;
                default: return left != 0L || right != 0L ? 1 : 0;
            }
        }

        private static int held(long result) {
            return (int) Math.max(-MOST_HELD, Math.min(MOST_HELD, result));
        }

        private void push(int value) {
            if (stacked < MOST_STACKED) {
                stack[stacked] = value;
                stacked++;
            }
        }

        private int pop() {
            if (stacked <= 0) {
                return 0;
            }
            stacked--;
            return stack[stacked];
        }
    }
}
