import java.util.Arrays;

/** A city whose gates are voted at dawn. What each call answers is told in ../shared/DOC.md. */
public final class VotedMap {
    public static final int NONE = -1000000, BAD = -1000001, STATE = -1000002, FULL = -1000003;

    private static final int FINDINGS = -1000010, NULL = 1, PLACE = 2, KIND = 3, SIZE = 4, STORE = 5;
    private static final int FAULTS = -1000100;
    private static final int ROWS = 8, ITEMS = 40, BYTES = 160, IMAGES = 2, ACTS = 24, TRACED = 16;
    private static final int PLOTS = 6, GATES = 8, PEOPLE = 5, WEIGHTS = 20, NEARS = 3, TIES = 2;
    private static final int LAST_DAY = 999, DAWNS_AT_ONCE = 20, DAWNS_AHEAD = 60, DAWNS_LONG = 10, PAIRS = 10;
    private static final int VOTER = 1, WALLED = 2, FOLLOWER = 3, VETOER = 4, STRANGER = 5;

    private final Row[] rows = new Row[ROWS];
    private final Tape tape = new Tape();
    private final City town = new City();
    private final City draft = new City();
    private final City[] images = new City[IMAGES];
    private final Acts acts = new Acts();
    private final Seer seer = new Seer();
    private final Trace traced = new Trace();
    private int finding;

    public VotedMap() {
        for (int i = 0; i < ROWS; i++) {
            rows[i] = new Row();
        }
        for (int i = 0; i < IMAGES; i++) {
            images[i] = new City();
        }
    }

    // ---- rows

    public int row(int row, int lane, int n) {
        if (!isWithin(row, ROWS) || lane < 0 || lane > Row.INTS || n > ITEMS) {
            return BAD;
        }
        if (n < 0) {
            return found(SIZE);
        }
        rows[row].make(lane, n);
        return clean(n);
    }

    public int set(int row, int i, int v) {
        if (!isWithin(row, ROWS)) {
            return BAD;
        }
        Row r = rows[row];
        if (!r.there) {
            return found(NULL);
        }
        if (!isWithin(i, r.length)) {
            return found(PLACE);
        }
        r.items[i] = r.cut(v);
        return clean(r.items[i]);
    }

    public int copy(int a, int i, int b, int j, int n) {
        if (!isWithin(a, ROWS) || !isWithin(b, ROWS)) {
            return BAD;
        }
        Row source = rows[a];
        Row goal = rows[b];
        if (!source.there || !goal.there) {
            return found(NULL);
        }
        if (source.lane != goal.lane) {
            return found(STORE);
        }
        if (!source.hasPlaces(i, n) || !goal.hasPlaces(j, n)) {
            return found(PLACE);
        }
        System.arraycopy(source.items, i, goal.items, j, n);
        return clean(n);
    }

    public int drop(int row) {
        if (!isWithin(row, ROWS)) {
            return BAD;
        }
        Row r = rows[row];
        if (!r.there) {
            return found(NULL);
        }
        r.there = false;
        return clean(r.length);
    }

    // ---- cities, acts

    public int feed(int letter) {
        if (letter < 0 || letter > 255) {
            return BAD;
        }
        return tape.add(letter) ? tape.length : FULL;
    }

    public int city() {
        boolean fair = tape.readAll(draft);
        tape.length = 0;
        if (!fair) {
            return FAULTS - tape.faultPlace;
        }
        town.become(draft);
        acts.forgetAll();
        return town.plots;
    }

    public int fault() {
        return tape.faultNumber;
    }

    public int dawn(int n) {
        if (!town.isThere()) {
            return STATE;
        }
        if (n < 1 || n > DAWNS_AT_ONCE) {
            return BAD;
        }
        if (town.day + n > LAST_DAY) {
            return FULL;
        }
        for (int i = 0; i < n; i++) {
            acts.keep(town);
            town.rise();
        }
        return town.open;
    }

    public int turn(int gate) {
        if (!isWithin(gate, town.gates)) {
            return BAD;
        }
        acts.keep(town);
        town.open ^= 1 << gate;
        return town.open >> gate & 1;
    }

    public int wish(int person, int set) {
        if (!isWithin(person, town.people) || !town.isGateSet(set)) {
            return BAD;
        }
        acts.keep(town);
        int before = town.wishes[person];
        town.wishes[person] = set;
        return before;
    }

    public int undo() {
        return acts.takeBack(town) ? acts.kept : STATE;
    }

    public int person(int person, int what) {
        if (!isWithin(person, town.people)) {
            return BAD;
        }
        switch (what) {
            case 0: return town.homes[person];
            case 1: return town.errands[person];
            case 2: return town.wishes[person];
            case 3: return town.weights[person];
            case 4: return town.spent >> person & 1;
            default: return BAD;
        }
    }

    public int gate(int gate, int what) {
        if (!isWithin(gate, town.gates)) {
            return BAD;
        }
        switch (what) {
            case 0: return town.firstPlots[gate];
            case 1: return town.secondPlots[gate];
            case 2: return town.open >> gate & 1;
            default: return BAD;
        }
    }

    public int reach(int plot) {
        return isWithin(plot, town.plots) ? town.reachedFrom(plot) : BAD;
    }

    public int steps(int person, int gate) {
        if (!isWithin(person, town.people) || !isWithin(gate, town.gates)) {
            return BAD;
        }
        town.measure();
        int passed = town.stepsOf(person, gate);
        return passed == City.FAR ? NONE : passed;
    }

    public int votes(int gate, int what) {
        if (!isWithin(gate, town.gates) || what < 0 || what > 1) {
            return BAD;
        }
        town.measure();
        return town.sumOf(gate, what == 0);
    }

    // ---- foretold

    public int ahead(int n, int what) {
        if (!town.isThere()) {
            return STATE;
        }
        if (n < 0 || n > DAWNS_AHEAD || what < 0 || what > 2) {
            return BAD;
        }
        City then = seer.behind(town, n);
        switch (what) {
            case 0: return then.open;
            case 1: return then.walledIn();
            default: return then.glad();
        }
    }

    public int round(int what) {
        if (!town.isThere()) {
            return STATE;
        }
        if (what < 0 || what > 1) {
            return BAD;
        }
        int length = seer.roundLength(town);
        return what == 1 ? length : seer.roundTail(town, length);
    }

    public int won(int gate, int is, int what) {
        if (!isWithin(gate, town.gates) || is < 0 || is > 1 || what < 0 || what > 1) {
            return BAD;
        }
        return manyOrSet(seer.fewest(town, gate, is, 1), what);
    }

    public int kept(int gate, int n, int what) {
        if (!isWithin(gate, town.gates) || n < 1 || n > DAWNS_LONG || what < 0 || what > 1) {
            return BAD;
        }
        return manyOrSet(seer.fewest(town, gate, 1, n), what);
    }

    public int swap(int a, int b) {
        if (!isWithin(a, town.people) || !isWithin(b, town.people) || a == b) {
            return BAD;
        }
        return seer.firstSwap(town, a, b);
    }

    public int best(int person) {
        return isWithin(person, town.people) ? seer.leastWish(town, person) : BAD;
    }

    public int laws(int n, int what) {
        if (!town.isThere()) {
            return STATE;
        }
        if (n < 1 || n > DAWNS_LONG || what < 0 || what > 2) {
            return BAD;
        }
        seer.findLaw(town, n);
        switch (what) {
            case 0: return seer.lawNear;
            case 1: return seer.lawTie;
            default: return seer.lawGlad;
        }
    }

    public int opened(int row, int i, int n, int what) {
        if (!town.isThere()) {
            return STATE;
        }
        if (!isWithin(row, ROWS) || n < 0 || n > PAIRS || what < 0 || what > 2) {
            return BAD;
        }
        Row r = rows[row];
        if (!r.there) {
            return found(NULL);
        }
        if (!r.hasPlaces(i, 2 * n)) {
            return found(PLACE);
        }
        if (!arePairs(r, i, n)) {
            return BAD;
        }
        seer.findSets(town, peopleTold(r, i, n, 1), peopleTold(r, i, n, 0));
        return clean(setsAnswer(what));
    }

    public int sold(int gates) {
        if (!town.isThere()) {
            return STATE;
        }
        return town.isGateSet(gates) ? seer.sellers(town, gates) : BAD;
    }

    public int image(int k) {
        if (!isWithin(k, IMAGES)) {
            return BAD;
        }
        if (!town.isThere()) {
            return STATE;
        }
        images[k].become(town);
        return 1;
    }

    public int restore(int k) {
        if (!isWithin(k, IMAGES)) {
            return BAD;
        }
        if (!images[k].isThere()) {
            return STATE;
        }
        town.become(images[k]);
        acts.forgetAll();
        return 1;
    }

    // ---- asked

    public int kind(int person) {
        return isWithin(person, town.people) ? town.sorts[person] : BAD;
    }

    public int as(int person, int kind) {
        if (!isWithin(person, town.people) || kind < 0 || kind > STRANGER) {
            return BAD;
        }
        return isOfKind(town.sorts[person], kind) ? clean(person) : found(KIND);
    }

    public int ask(int person, int what) {
        if (!isWithin(person, town.people) || what < 0 || what > 1) {
            return BAD;
        }
        int sort = town.sorts[person];
        return traced.answer(town, person, what == 0 ? Trace.sizeBody(sort) : Trace.markBody(sort));
    }

    public int trace(int i) {
        return isWithin(i, traced.length) ? traced.bodies[i] : NONE;
    }

    public int count(int what) {
        switch (what) {
            case 0: return rowsThere();
            case 1: return town.plots;
            case 2: return town.gates;
            case 3: return town.people;
            case 4: return town.day;
            case 5: return town.open;
            case 6: return town.spent;
            case 7: return acts.kept;
            case 8: return tape.length;
            default: return BAD;
        }
    }

    public int status() {
        return finding;
    }

    // ---- what the calls share

    private static boolean isWithin(int number, int many) {
        return number >= 0 && number < many;
    }

    private int found(int number) {
        finding = number;
        return FINDINGS - number;
    }

    private int clean(int answer) {
        finding = 0;
        return answer;
    }

    private int rowsThere() {
        int many = 0;
        for (int i = 0; i < ROWS; i++) {
            if (rows[i].there) {
                many++;
            }
        }
        return many;
    }

    private static int manyOrSet(int set, int what) {
        return set == NONE || what == 1 ? set : Integer.bitCount(set);
    }

    private boolean arePairs(Row r, int from, int pairs) {
        for (int k = 0; k < pairs; k++) {
            int is = r.items[from + 2 * k + 1];
            if (!isWithin(r.items[from + 2 * k], town.people) || is < 0 || is > 1) {
                return false;
            }
        }
        return true;
    }

    private static int peopleTold(Row r, int from, int pairs, int is) {
        int set = 0;
        for (int k = 0; k < pairs; k++) {
            if (r.items[from + 2 * k + 1] == is) {
                set |= 1 << r.items[from + 2 * k];
            }
        }
        return set;
    }

    private int setsAnswer(int what) {
        if (what == 0) {
            return seer.sets;
        }
        if (seer.sets == 0) {
            return NONE;
        }
        return what == 1 ? seer.openInAll : seer.shutInAll;
    }

    private static boolean isOfKind(int sort, int kind) {
        switch (kind) {
            case 0: return true;
            case VOTER: return sort == VOTER || sort == WALLED || sort == FOLLOWER;
            case VETOER: return sort == VETOER || sort == STRANGER;
            default: return sort == kind;
        }
    }

    /** A row keeps its forty places for good, so that making it anew costs no new array. */
    private static final class Row {
        static final int BYTES_LANE = 0, SHORTS = 1, INTS = 2;

        final int[] items = new int[ITEMS];
        boolean there;
        int lane;
        int length;

        void make(int newLane, int n) {
            there = true;
            lane = newLane;
            length = n;
            Arrays.fill(items, 0);
        }

        int cut(int v) {
            switch (lane) {
                case BYTES_LANE: return (byte) v;
                case SHORTS: return (short) v;
                default: return v;
            }
        }

        boolean hasPlaces(int from, int n) {
            // from + n could wrap around
            return from >= 0 && n >= 0 && n <= length && from <= length - n;
        }
    }

    /** The bytes fed, and the reading of them. */
    private static final class Tape {
        final int[] bytes = new int[BYTES];
        int length;
        int faultNumber;
        int faultPlace;
        private int at;
        private int number;

        boolean add(int letter) {
            if (length >= BYTES) {
                return false;
            }
            bytes[length] = letter;
            length++;
            return true;
        }

        boolean readAll(City c) {
            at = 0;
            c.clear();
            return readHead(c) && readGates(c) && readPeople(c);
        }

        private boolean readHead(City c) {
            if (!takeSign('p') || !takeNumber(2, PLOTS)) {
                return false;
            }
            c.plots = number;
            if (!takeSign(',') || !takeNumber(0, NEARS)) {
                return false;
            }
            c.near = number;
            if (!takeSign(',') || !takeNumber(0, TIES)) {
                return false;
            }
            c.tie = number;
            return takeSign(';');
        }

        private boolean readGates(City c) {
            for (int i = 0; i <= GATES && at < length && bytes[at] == 'g'; i++) {
                if (i == GATES) {
                    return refuse(3, at);
                }
                at++;
                if (!readGate(c, i)) {
                    return false;
                }
                c.gates = i + 1;
            }
            return true;
        }

        private boolean readGate(City c, int gate) {
            if (!takeNumber(0, c.plots - 1)) {
                return false;
            }
            c.firstPlots[gate] = number;
            if (!takeSign(',')) {
                return false;
            }
            int place = at;
            if (!takeNumber(0, c.plots - 1)) {
                return false;
            }
            c.secondPlots[gate] = number;
            if (c.firstPlots[gate] == number) {
                return refuse(2, place);
            }
            if (!takeSign(',') || !takeNumber(0, 1)) {
                return false;
            }
            c.open |= number << gate;
            return takeSign(';');
        }

        private boolean readPeople(City c) {
            for (int i = 0; i <= PEOPLE && at < length; i++) {
                int sort = sortOf(bytes[at]);
                if (sort == 0) {
                    return refuse(1, at);
                }
                if (i == PEOPLE) {
                    return refuse(3, at);
                }
                at++;
                c.sorts[i] = sort;
                if (!readPerson(c, i)) {
                    return false;
                }
                c.people = i + 1;
            }
            return true;
        }

        private boolean readPerson(City c, int person) {
            if (!takeNumber(0, c.plots - 1)) {
                return false;
            }
            c.homes[person] = number;
            if (!takeSign(',') || !takeNumber(0, c.plots - 1)) {
                return false;
            }
            c.errands[person] = number;
            if (!takeSign(',') || !takeNumber(0, c.allGates())) {
                return false;
            }
            c.wishes[person] = number;
            if (!takeSign(',') || !takeNumber(0, WEIGHTS)) {
                return false;
            }
            c.weights[person] = number;
            return takeSign(';');
        }

        private static int sortOf(int letter) {
            switch (letter) {
                case 'v': return VOTER;
                case 'w': return WALLED;
                case 'm': return FOLLOWER;
                case 'x': return VETOER;
                case 's': return STRANGER;
                default: return 0;
            }
        }

        private boolean takeSign(int sign) {
            if (at >= length || bytes[at] != sign) {
                return refuse(1, at);
            }
            at++;
            return true;
        }

        private boolean takeNumber(int least, int most) {
            int end = at;
            int value = 0;
            while (end < length && isFigure(bytes[end])) {
                // only three figures make a number; a longer run is refused below
                value = end < at + 3 ? 10 * value + bytes[end] - '0' : value;
                end++;
            }
            if (end == at || end > at + 3) {
                return refuse(1, at);
            }
            if (value < least || value > most) {
                return refuse(2, at);
            }
            at = end;
            number = value;
            return true;
        }

        private static boolean isFigure(int letter) {
            return letter >= '0' && letter <= '9';
        }

        /** Always false, as what finds a fault reads no further. */
        private boolean refuse(int fault, int place) {
            faultNumber = fault;
            faultPlace = place;
            return false;
        }
    }

    /** A city; what is foretold is tried on a copy of it. */
    private static final class City {
        /** More steps than any way has: there is none. */
        static final int FAR = 100;

        int plots;
        int near;
        int tie;
        int gates;
        int people;
        final int[] firstPlots = new int[GATES];
        final int[] secondPlots = new int[GATES];
        final int[] sorts = new int[PEOPLE];
        final int[] homes = new int[PEOPLE];
        final int[] errands = new int[PEOPLE];
        final int[] weights = new int[PEOPLE];
        final int[] wishes = new int[PEOPLE];
        int open;
        int spent;
        int day;
        private final int[] stepTable = new int[PEOPLE * GATES];
        /** The open gates that stepTable holds for: many trials begin with the same ones. */
        private int measuredOpen = -1;

        boolean isThere() {
            return plots > 0;
        }

        int allGates() {
            return (1 << gates) - 1;
        }

        boolean isGateSet(int set) {
            return set >= 0 && set <= allGates();
        }

        void clear() {
            plots = 0;
            gates = 0;
            people = 0;
            open = 0;
            spent = 0;
            day = 0;
            measuredOpen = -1;
        }

        void become(City other) {
            plots = other.plots;
            gates = other.gates;
            people = other.people;
            System.arraycopy(other.firstPlots, 0, firstPlots, 0, GATES);
            System.arraycopy(other.secondPlots, 0, secondPlots, 0, GATES);
            System.arraycopy(other.sorts, 0, sorts, 0, PEOPLE);
            System.arraycopy(other.homes, 0, homes, 0, PEOPLE);
            System.arraycopy(other.errands, 0, errands, 0, PEOPLE);
            System.arraycopy(other.weights, 0, weights, 0, PEOPLE);
            measuredOpen = -1;
            beginAs(other);
        }

        /** Takes over what a trial changes; the other is of the same plan. */
        void beginAs(City other) {
            near = other.near;
            tie = other.tie;
            open = other.open;
            spent = other.spent;
            day = other.day;
            System.arraycopy(other.wishes, 0, wishes, 0, PEOPLE);
        }

        boolean isLike(City other) {
            return open == other.open && spent == other.spent;
        }

        private boolean isOpen(int gate) {
            return (open >> gate & 1) == 1;
        }

        private int endsOf(int gate) {
            return 1 << firstPlots[gate] | 1 << secondPlots[gate];
        }

        int wishFor(int person, int gate) {
            return wishes[person] >> gate & 1;
        }

        void wishSo(int person, int gate, int is) {
            wishes[person] = wishes[person] & ~(1 << gate) | is << gate;
        }

        int reachedFrom(int plot) {
            int reached = 1 << plot;
            for (int passed = 1; passed < plots; passed++) {
                for (int g = 0; g < gates; g++) {
                    if (isOpen(g) && (reached & endsOf(g)) != 0) {
                        reached |= endsOf(g);
                    }
                }
            }
            return reached;
        }

        boolean isGlad(int person) {
            return (reachedFrom(homes[person]) >> errands[person] & 1) == 1;
        }

        int glad() {
            int set = 0;
            for (int p = 0; p < people; p++) {
                set |= isGlad(p) ? 1 << p : 0;
            }
            return set;
        }

        private boolean isWalledIn(int person) {
            int home = homes[person];
            for (int g = 0; g < gates; g++) {
                boolean atHome = firstPlots[g] == home || secondPlots[g] == home;
                if (atHome && (open >> g & 1) == 1) {
                    return false;
                }
            }
            return true;
        }

        int walledIn() {
            int set = 0;
            for (int p = 0; p < people; p++) {
                set |= isWalledIn(p) ? 1 << p : 0;
            }
            return set;
        }

        void measure() {
            if (measuredOpen == open) {
                return;
            }
            measuredOpen = open;
            Arrays.fill(stepTable, FAR);
            for (int p = 0; p < people; p++) {
                measureFor(p);
            }
        }

        private void measureFor(int person) {
            int reached = 1 << homes[person];
            for (int passed = 0; passed < plots; passed++) {
                int further = reached;
                for (int g = 0; g < gates; g++) {
                    if ((reached & endsOf(g)) != 0) {
                        int k = person * GATES + g;
                        stepTable[k] = Math.min(stepTable[k], passed);
                        further |= isOpen(g) ? endsOf(g) : 0;
                    }
                }
                reached = further;
            }
        }

        /** As the city stood when it was measured. */
        int stepsOf(int person, int gate) {
            return stepTable[person * GATES + gate];
        }

        private int voiceOf(int person, int gate) {
            if (sorts[person] == STRANGER) {
                return 0;
            }
            int passed = stepsOf(person, gate);
            if (passed <= near) {
                return Math.max(0, weights[person] - passed);
            }
            return sorts[person] == WALLED && isWalledIn(person) ? 1 : 0;
        }

        private boolean isForOpen(int person, int gate) {
            return sorts[person] == FOLLOWER ? isOpen(gate) : wishFor(person, gate) == 1;
        }

        int sumOf(int gate, boolean forOpen) {
            int sum = 0;
            for (int p = 0; p < people; p++) {
                if (isForOpen(p, gate) == forOpen) {
                    sum += voiceOf(p, gate);
                }
            }
            return sum;
        }

        private boolean isOpenBy(int gate, int forOpen, int forShut) {
            if (forOpen != forShut) {
                return forOpen > forShut;
            }
            return tie == 1 || tie == 2 && isOpen(gate);
        }

        private boolean spendsVeto(int gate) {
            for (int p = 0; p < people; p++) {
                boolean may = sorts[p] == VETOER && (spent >> p & 1) == 0;
                if (may && stepsOf(p, gate) <= near && wishFor(p, gate) == 0) {
                    spent |= 1 << p;
                    return true;
                }
            }
            return false;
        }

        void rise() {
            measure();
            int then = 0;
            for (int g = 0; g < gates; g++) {
                if (isOpenBy(g, sumOf(g, true), sumOf(g, false)) && !spendsVeto(g)) {
                    then |= 1 << g;
                }
            }
            open = then;
            day++;
        }
    }

    /** What the latest acts can be undone to, in a ring: the oldest makes room. */
    private static final class Acts {
        int kept;
        private int next;
        private final int[] opens = new int[ACTS];
        private final int[] spents = new int[ACTS];
        private final int[] days = new int[ACTS];
        private final int[] wishes = new int[ACTS * PEOPLE];

        void forgetAll() {
            kept = 0;
            next = 0;
        }

        void keep(City c) {
            opens[next] = c.open;
            spents[next] = c.spent;
            days[next] = c.day;
            System.arraycopy(c.wishes, 0, wishes, next * PEOPLE, PEOPLE);
            next = (next + 1) % ACTS;
            kept = Math.min(kept + 1, ACTS);
        }

        boolean takeBack(City c) {
            if (kept == 0) {
                return false;
            }
            next = (next + ACTS - 1) % ACTS;
            kept--;
            c.open = opens[next];
            c.spent = spents[next];
            c.day = days[next];
            System.arraycopy(wishes, next * PEOPLE, c.wishes, 0, PEOPLE);
            return true;
        }
    }

    /** Tries on copies of a city what would be. */
    private static final class Seer {
        /** Rounds end within some ten thousand dawns; this only makes the loops' end plain. */
        private static final int MOST_DAWNS = 1000000;

        int lawNear;
        int lawTie;
        int lawGlad;
        int sets;
        int openInAll;
        int shutInAll;
        private final City trial = new City();
        private final City other = new City();

        City behind(City now, int n) {
            trial.become(now);
            for (int i = 0; i < n; i++) {
                trial.rise();
            }
            return trial;
        }

        /** Brent's way: the trial waits at the powers of two until the other comes by again. */
        int roundLength(City now) {
            trial.become(now);
            other.become(now);
            int length = 0;
            int waited = 1;
            for (int i = 0; i < MOST_DAWNS; i++) {
                other.rise();
                length++;
                if (other.isLike(trial)) {
                    return length;
                }
                if (length == waited) {
                    trial.beginAs(other);
                    waited *= 2;
                    length = 0;
                }
            }
            return length;
        }

        int roundTail(City now, int length) {
            trial.become(now);
            other.become(now);
            for (int i = 0; i < length; i++) {
                other.rise();
            }
            int tail = 0;
            while (tail < MOST_DAWNS && !other.isLike(trial)) {
                trial.rise();
                other.rise();
                tail++;
            }
            return tail;
        }

        /** The set of people, or NONE. */
        int fewest(City now, int gate, int is, int dawns) {
            trial.become(now);
            int found = NONE;
            int least = PEOPLE + 1;
            for (int set = 0; set < 1 << now.people; set++) {
                int many = Integer.bitCount(set);
                if (many < least && staysSo(now, set, gate, is, dawns)) {
                    found = set;
                    least = many;
                }
            }
            return found;
        }

        private boolean staysSo(City now, int set, int gate, int is, int dawns) {
            trial.beginAs(now);
            for (int p = 0; p < now.people; p++) {
                if ((set >> p & 1) == 1) {
                    trial.wishSo(p, gate, is);
                }
            }
            for (int i = 0; i < dawns; i++) {
                trial.rise();
                if ((trial.open >> gate & 1) != is) {
                    return false;
                }
            }
            return true;
        }

        int firstSwap(City now, int a, int b) {
            trial.become(now);
            trial.rise();
            if (areGlad(a, b)) {
                return NONE;
            }
            for (int one = 0; one < now.gates; one++) {
                for (int two = 0; two < now.gates; two++) {
                    if (one != two && swapHelps(now, a, b, one, two)) {
                        return GATES * one + two;
                    }
                }
            }
            return NONE;
        }

        private boolean swapHelps(City now, int a, int b, int one, int two) {
            trial.beginAs(now);
            trial.wishSo(a, one, now.wishFor(b, one));
            trial.wishSo(b, two, now.wishFor(a, two));
            trial.rise();
            return areGlad(a, b);
        }

        private boolean areGlad(int a, int b) {
            return trial.isGlad(a) && trial.isGlad(b);
        }

        int leastWish(City now, int person) {
            trial.become(now);
            for (int set = 0; set <= now.allGates(); set++) {
                trial.beginAs(now);
                trial.wishes[person] = set;
                trial.rise();
                if (trial.isGlad(person)) {
                    return set;
                }
            }
            return NONE;
        }

        void findLaw(City now, int dawns) {
            trial.become(now);
            lawGlad = -1;
            for (int near = 0; near <= NEARS; near++) {
                for (int tie = 0; tie <= TIES; tie++) {
                    int many = gladBy(now, near, tie, dawns);
                    if (many > lawGlad) {
                        lawNear = near;
                        lawTie = tie;
                        lawGlad = many;
                    }
                }
            }
        }

        private int gladBy(City now, int near, int tie, int dawns) {
            trial.beginAs(now);
            trial.near = near;
            trial.tie = tie;
            for (int i = 0; i < dawns; i++) {
                trial.rise();
            }
            return Integer.bitCount(trial.glad());
        }

        void findSets(City now, int toldGlad, int toldNot) {
            trial.become(now);
            sets = 0;
            openInAll = now.allGates();
            shutInAll = now.allGates();
            for (int set = 0; set <= now.allGates(); set++) {
                trial.open = set;
                int glad = trial.glad();
                if ((glad & toldGlad) == toldGlad && (glad & toldNot) == 0) {
                    sets++;
                    openInAll &= set;
                    shutInAll &= ~set;
                }
            }
        }

        int sellers(City now, int gates) {
            trial.become(now);
            int set = 0;
            for (int p = 0; p < now.people; p++) {
                for (int g = 0; g < now.gates; g++) {
                    trial.beginAs(now);
                    trial.wishSo(p, g, 1 - now.wishFor(p, g));
                    trial.rise();
                    set |= trial.open == gates ? 1 << p : 0;
                }
            }
            return set;
        }
    }

    /** The asks; a body that asks for another one begins it by its number. */
    private static final class Trace {
        /** The longest ask begins six bodies. */
        private static final int DEEPEST = 12;

        final int[] bodies = new int[TRACED];
        int length;

        private void leave(int body) {
            if (length < TRACED) {
                bodies[length] = body;
                length++;
            }
        }

        static int sizeBody(int sort) {
            switch (sort) {
                case VOTER: case FOLLOWER: return 11;
                case WALLED: return 12;
                case VETOER: return 13;
                case STRANGER: return 14;
                default: return 10;
            }
        }

        static int markBody(int sort) {
            switch (sort) {
                case VOTER: return 21;
                case FOLLOWER: return 22;
                case VETOER: case STRANGER: return 23;
                case WALLED: return 24;
                default: return 20;
            }
        }

        int answer(City c, int person, int body) {
            length = 0;
            return begin(this, c, person, body, 0);
        }

        private static int begin(Trace t, City c, int person, int body, int depth) {
            if (depth > DEEPEST) {
                return 0;
            }
            t.leave(body);
            int next = depth + 1;
            int sort = c.sorts[person];
            switch (body) {
                case 10: return c.weights[person];
                case 11: return begin(t, c, person, 10, next) + begin(t, c, person, markBody(sort), next);
                case 12: return -begin(t, c, person, 11, next);
                case 13: return begin(t, c, person, 10, next) - 100;
                case 14: return 2 * begin(t, c, person, 13, next);
                case 20: return person;
                case 21: return begin(t, c, person, 20, next) + Integer.bitCount(c.reachedFrom(c.homes[person]));
                case 22: return begin(t, c, person, 21, next) - 1000;
                case 23: return begin(t, c, person, 20, next) - begin(t, c, person, sizeBody(sort), next);
                case 24: return 2 * begin(t, c, person, 21, next);
                default: return 0;
            }
        }
    }
}
