import java.util.Arrays;

/**
 * A roundabout that is told in a language, driven by hand and asked about. The document's promises
 * are met by the public methods; the classes inside hold the text readers, the state and its STEP.
 */
public final class LetOff {
    public static final int NONE = -1;

    private static final int WITHOUT = -2;
    private static final int MOST_CARS = 6;
    private static final int MOST_ROADS = 5;
    private static final int MOST_CELLS = 20;
    private static final int MOST_BYTES = 400;
    private static final int MOST_RULES = 6;
    private static final int MOST_UNDOS = 20;
    private static final int MOST_NOTES = 10;
    private static final int MOST_IMAGES = 4;
    private static final int MOST_FUEL = 99;
    private static final int MOST_WAITING = 99;
    private static final int LAST_STEP_BY_HAND = 999;
    private static final int LAST_NOTED_STEP = 60;
    private static final int LONGEST_SEARCH = 200;
    private static final int LONGEST_RING = 60;
    private static final int LONGEST_ROW = 3;

    private static final int DEED_GRASS = 0;
    private static final int DEED_FILL = 1;
    private static final int DEED_CLOSE = 2;

    private final byte[] tape = new byte[MOST_BYTES];
    private int tapeLength = 0;
    private final Rule[] rules = new Rule[MOST_RULES];
    private int ruleCount = 0;

    private Plan plan = null;
    private final Round now = new Round();
    private int inForce = NONE;
    private int x = 0;
    private final Notes notes = new Notes();

    private final Image[] images = new Image[MOST_IMAGES];
    private final Round[] undos = new Round[MOST_UNDOS];
    private int undoCount = 0;
    private int undoNext = 0;

    private final ShowReader showReader = new ShowReader();
    private final RuleReader ruleReader = new RuleReader();
    private final Engine engine = new Engine();
    private final RowSearch rowSearch = new RowSearch();

    // Filled anew by each question that needs them, so that none makes rows of its own.
    private final Round trial = new Round();
    private final int[] table = new int[MOST_CARS * (MOST_CELLS + 1)];
    private final long[] faces = new long[LONGEST_RING + 1];

    public LetOff() {
        for (int k = 0; k < MOST_IMAGES; k++) {
            images[k] = new Image();
        }
        for (int k = 0; k < MOST_UNDOS; k++) {
            undos[k] = new Round();
        }
    }

    // The tape, and the texts on it.

    public int feed(int a, int b, int c, int d, int e) {
        if (tapeLength + 20 > MOST_BYTES) {
            return NONE;
        }
        putBytes(a);
        putBytes(b);
        putBytes(c);
        putBytes(d);
        putBytes(e);
        return tapeLength;
    }

    private void putBytes(int number) {
        for (int shift = 24; shift >= 0 && tapeLength < MOST_BYTES; shift -= 8) {
            tape[tapeLength] = (byte) (number >> shift);
            tapeLength++;
        }
    }

    public int end(int n) {
        if (n < 0 || n > tapeLength) {
            return NONE;
        }
        tapeLength = n;
        return n;
    }

    public int show() {
        Plan told = showReader.read(tape, tapeLength);
        tapeLength = 0;
        if (told == null) {
            return -2 - showReader.in.fault;
        }
        plan = told;
        now.copyFrom(told.start);
        notes.size = 0;
        undoCount = 0;
        return told.told;
    }

    public int rule() {
        if (ruleCount >= MOST_RULES) {
            return NONE;
        }
        Rule told = ruleReader.read(tape, tapeLength);
        tapeLength = 0;
        if (told == null) {
            return -2 - ruleReader.in.fault;
        }
        rules[ruleCount] = told;
        ruleCount++;
        return ruleCount - 1;
    }

    public int force(int rule) {
        if (rule < NONE || rule >= ruleCount) {
            return -2;
        }
        int was = inForce;
        inForce = rule;
        return was;
    }

    // What is there now.

    public int car(int car, int what) {
        if (plan == null || !isCar(car)) {
            return WITHOUT;
        }
        switch (what) {
            case 0:
                return now.cell[car];
            case 1:
                return now.want[car];
            case 2:
                return now.fuel[car];
            case 3:
                return now.age[car];
            default:
                return WITHOUT;
        }
    }

    public int road(int road, int what) {
        if (plan == null || !isRoad(road)) {
            return NONE;
        }
        switch (what) {
            case 0:
                return plan.roadCell[road];
            case 1:
                return plan.roadEvery[road];
            case 2:
                return now.waits[road];
            default:
                return NONE;
        }
    }

    public int gapIn(int cell) {
        if (!isCell(cell)) {
            return NONE;
        }
        return now.hasGap(cell) ? 1 : 0;
    }

    public int count(int what) {
        switch (what) {
            case 0:
                return plan == null ? 0 : plan.cells;
            case 1:
                return plan == null ? 0 : plan.roads;
            case 2:
                return plan == null ? 0 : plan.told;
            case 3:
                return ruleCount;
            case 4:
                return inForce;
            case 5:
                return now.steps;
            case 6:
                return now.carsOn();
            case 7:
                return now.gone;
            case 8:
                return Integer.bitCount(now.gaps);
            case 9:
                return now.allWaiting();
            case 10:
                return notes.size;
            case 11:
                return undoCount;
            case 12:
                return x;
            case 13:
                return tapeLength;
            default:
                return NONE;
        }
    }

    private static boolean isCar(int car) {
        return car >= 0 && car < MOST_CARS;
    }

    private boolean isOn(int car) {
        return isCar(car) && now.cell[car] != NONE;
    }

    private boolean isRoad(int road) {
        return plan != null && road >= 0 && road < plan.roads;
    }

    private boolean isCell(int cell) {
        return plan != null && cell >= 0 && cell < plan.cells;
    }

    private static boolean within(int number, int least, int most) {
        return number >= least && number <= most;
    }

    // Acts, and their undoing.

    public int step() {
        if (plan == null || now.steps >= LAST_STEP_BY_HAND) {
            return NONE;
        }
        keepForUndo();
        setEngine(inForce);
        return engine.drive(now);
    }

    public int pole(int car, int much) {
        if (!isOn(car) || !within(much, 1, 20)) {
            return NONE;
        }
        keepForUndo();
        now.fuel[car] = Math.min(MOST_FUEL, now.fuel[car] + much);
        return now.fuel[car];
    }

    public int grass(int car) {
        if (!isOn(car)) {
            return NONE;
        }
        keepForUndo();
        int cell = now.cell[car];
        now.goOverGrass(car);
        return cell;
    }

    public int fill(int cell) {
        if (!isCell(cell) || !now.hasGap(cell)) {
            return NONE;
        }
        keepForUndo();
        now.closeGap(cell);
        return Integer.bitCount(now.gaps);
    }

    public int wish(int car, int road) {
        if (!isOn(car) || !isRoad(road) || now.want[car] == road) {
            return NONE;
        }
        keepForUndo();
        int was = now.want[car];
        now.want[car] = road;
        return was;
    }

    public int undo() {
        if (undoCount == 0) {
            return NONE;
        }
        undoCount--;
        undoNext = Math.floorMod(undoNext - 1, MOST_UNDOS);
        now.copyFrom(undos[undoNext]);
        return undoCount;
    }

    private void keepForUndo() {
        undos[undoNext].copyFrom(now);
        undoNext = (undoNext + 1) % MOST_UNDOS;
        undoCount = Math.min(MOST_UNDOS, undoCount + 1);
    }

    // Questions about how it goes on: each drives a trial, so that nothing stays of it.

    private void setEngine(int rule) {
        engine.plan = plan;
        engine.rule = rule >= 0 && rule < ruleCount ? rules[rule] : null;
        engine.closedRoad = NONE;
        engine.chosenSet = NONE;
    }

    private Round tryFromNow() {
        setEngine(inForce);
        trial.copyFrom(now);
        return trial;
    }

    /** The number of the STEP, 1 the first, in which a CAR goes OFF; 0 if in none of n. */
    private int stepOff(Round round, int car, int n) {
        for (int k = 1; k <= n; k++) {
            if ((engine.drive(round) >> car & 1) == 1) {
                return k;
            }
            if (round.fuel[car] == 0) {
                break; // It stands from now on: the searches need not go on to their end.
            }
        }
        return 0;
    }

    private int goneIn(Round round, int n) {
        int before = round.gone;
        for (int k = 0; k < n; k++) {
            engine.drive(round);
        }
        return round.gone - before;
    }

    public int ahead(int car, int n, int what) {
        if (plan == null || !within(n, 0, 100) || !within(what, 0, 2)) {
            return WITHOUT;
        }
        if (what != 2 && !isCar(car)) {
            return WITHOUT;
        }
        Round round = tryFromNow();
        goneIn(round, n);
        if (what == 2) {
            return round.gone;
        }
        return what == 0 ? round.cell[car] : round.fuel[car];
    }

    public int lets(int car) {
        if (!isOn(car)) {
            return NONE;
        }
        int k = stepOff(tryFromNow(), car, LONGEST_SEARCH);
        return k == 0 ? -2 : now.steps + k - 1;
    }

    public int still() {
        if (plan == null) {
            return NONE;
        }
        Round round = tryFromNow();
        for (int k = 0; k < LONGEST_SEARCH; k++) {
            engine.drive(round);
            if (!engine.stirred) {
                return now.steps + k;
            }
        }
        return -2;
    }

    public int leastFuel(int car, int n) {
        if (!isOn(car) || !within(n, 1, 100)) {
            return NONE;
        }
        // A RULE may look at the fuel, so more of it is not always better: each is tried.
        for (int fuel = 0; fuel <= 60; fuel++) {
            Round round = tryFromNow();
            round.fuel[car] = fuel;
            if (stepOff(round, car, n) != 0) {
                return fuel;
            }
        }
        return -2;
    }

    public int bestGrass(int n, int what) {
        return bestDeed(DEED_GRASS, n, what);
    }

    public int bestFill(int n, int what) {
        return bestDeed(DEED_FILL, n, what);
    }

    public int closed(int n, int what) {
        return bestDeed(DEED_CLOSE, n, what);
    }

    private int bestDeed(int deed, int n, int what) {
        if (plan == null || !within(n, 1, 40) || !within(what, 0, 1)) {
            return WITHOUT;
        }
        int which = NONE;
        int most = goneIn(tryFromNow(), n);
        for (int k = 0; k < MOST_CELLS; k++) {
            Round round = tryFromNow();
            if (!doDeed(round, deed, k)) {
                continue;
            }
            int gone = goneIn(round, n);
            if (gone > most) {
                most = gone;
                which = k;
            }
        }
        return what == 0 ? which : most;
    }

    /** Does what is tried to CAR, CELL or ROAD k; false, if there is no such one. */
    private boolean doDeed(Round round, int deed, int k) {
        switch (deed) {
            case DEED_GRASS:
                if (!isOn(k)) {
                    return false;
                }
                round.goOverGrass(k);
                return true;
            case DEED_FILL:
                if (!isCell(k) || !round.hasGap(k)) {
                    return false;
                }
                round.closeGap(k);
                return true;
            default:
                if (!isRoad(k)) {
                    return false;
                }
                round.waits[k] = 0;
                engine.closedRoad = k;
                return true;
        }
    }

    public int row(int n, int what) {
        if (plan == null || !within(n, 1, LONGEST_ROW) || !within(what, 0, LONGEST_ROW)) {
            return NONE;
        }
        if (what > n) {
            return -2;
        }
        setEngine(inForce);
        rowSearch.search(engine, now, n);
        return what == 0 ? rowSearch.most : rowSearch.best[what - 1];
    }

    public int longest(int n, int what) {
        if (plan == null || !within(n, 1, 100) || !within(what, 0, 2)) {
            return NONE;
        }
        Round round = tryFromNow();
        int most = NONE;
        int when = -2;
        int where = -2;
        for (int k = 0; k < n; k++) {
            engine.drive(round);
            for (int road = 0; road < plan.roads; road++) {
                if (round.waits[road] > most) {
                    most = round.waits[road];
                    when = now.steps + k;
                    where = road;
                }
            }
        }
        if (what == 0) {
            return Math.max(0, most);
        }
        return what == 1 ? when : where;
    }

    public int rests(int one, int other, int n, int what) {
        if (!isOn(one) || !isOn(other) || one == other) {
            return NONE;
        }
        if (plan == null || !within(n, 1, 20) || !within(what, 0, 2)) {
            return NONE;
        }
        fillTable(one, other, n);
        int many = 0;
        int first = NONE;
        for (int two = 0; two < plan.roads * plan.roads; two++) {
            if (isRest(two / plan.roads, two % plan.roads)) {
                first = many == 0 ? two : first;
                many++;
            }
        }
        if (what == 0) {
            return many;
        }
        if (first == NONE) {
            return -2;
        }
        return what == 1 ? first / plan.roads : first % plan.roads;
    }

    /** Where the table has what the first one gains by these two ROADS; the second's stands behind. */
    private static int gainAt(int road, int otherRoad) {
        return 2 * (road * MOST_ROADS + otherRoad);
    }

    private void fillTable(int one, int other, int n) {
        for (int road = 0; road < plan.roads; road++) {
            for (int otherRoad = 0; otherRoad < plan.roads; otherRoad++) {
                Round round = tryFromNow();
                round.want[one] = road;
                round.want[other] = otherRoad;
                int at = gainAt(road, otherRoad);
                table[at] = 0;
                table[at + 1] = 0;
                for (int k = 1; k <= n; k++) {
                    int off = engine.drive(round);
                    table[at] = gainBehind(off, one, table[at], k);
                    table[at + 1] = gainBehind(off, other, table[at + 1], k);
                }
            }
        }
    }

    /** A CAR that came ON under the number of one that is OFF gains nothing more for it. */
    private static int gainBehind(int off, int car, int gain, int k) {
        return gain == 0 && (off >> car & 1) == 1 ? 100 - k : gain;
    }

    private boolean isRest(int road, int otherRoad) {
        int at = gainAt(road, otherRoad);
        for (int k = 0; k < plan.roads; k++) {
            if (table[gainAt(k, otherRoad)] > table[at]) {
                return false;
            }
            if (table[gainAt(road, k) + 1] > table[at + 1]) {
                return false;
            }
        }
        return true;
    }

    public int ring(int what) {
        if (plan == null || !within(what, 0, 1)) {
            return NONE;
        }
        Round round = tryFromNow();
        faces[0] = round.face();
        for (int k = 1; k <= LONGEST_RING; k++) {
            engine.drive(round);
            faces[k] = round.face();
        }
        for (int k = 0; k < LONGEST_RING; k++) {
            for (int later = k + 1; later <= LONGEST_RING; later++) {
                if (faces[k] == faces[later]) {
                    return what == 0 ? now.steps + k : later - k;
                }
            }
        }
        return -2;
    }

    public int litres(int much, int car) {
        if (plan == null || !within(much, 0, 9999) || !isCar(car)) {
            return NONE;
        }
        int all = 0;
        for (int k = 0; k < MOST_CARS; k++) {
            all += lack(k);
        }
        if (all <= 0) {
            return 0;
        }
        int left = much;
        int served = 0;
        int lost = much * lack(car) % all;
        for (int k = 0; k < MOST_CARS; k++) {
            left -= much * lack(k) / all;
            int itsLost = much * lack(k) % all;
            if (itsLost > lost || (itsLost == lost && k < car)) {
                served++;
            }
        }
        return much * lack(car) / all + (served < left ? 1 : 0);
    }

    private int lack(int car) {
        return isOn(car) ? MOST_FUEL - now.fuel[car] : 0;
    }

    // Notes, and what they leave open.

    public int note(int n, int car, int cell) {
        if (n == NONE) {
            notes.size = 0;
            return 0;
        }
        boolean fits = within(n, 0, LAST_NOTED_STEP) && isCar(car) && (cell == NONE || isCell(cell));
        if (plan == null || !fits || notes.size >= MOST_NOTES) {
            return -2;
        }
        notes.add(n, car, cell);
        return notes.size;
    }

    private Round tryFromBegin(int rule) {
        setEngine(rule);
        if (plan != null) {
            trial.copyFrom(plan.start);
        }
        return trial;
    }

    private boolean fitsNotes(Round round) {
        int last = notes.lastStep();
        for (int k = 0; k <= last; k++) {
            if (!notes.areSo(k, round)) {
                return false;
            }
            if (k < last) {
                engine.drive(round);
            }
        }
        return true;
    }

    public int wished(int car, int what) {
        if (plan == null || car < 0 || car >= plan.told || !within(what, 0, 1)) {
            return NONE;
        }
        int roads = 0;
        for (int road = 0; road < plan.roads; road++) {
            Round round = tryFromBegin(inForce);
            round.want[car] = road;
            if (fitsNotes(round)) {
                roads |= 1 << road;
            }
        }
        return what == 0 ? Integer.bitCount(roads) : roads;
    }

    public int ruled(int what) {
        if (plan == null || !within(what, 0, 1)) {
            return -3;
        }
        int many = 0;
        int first = -2;
        for (int rule = NONE; rule < ruleCount; rule++) {
            if (fitsNotes(tryFromBegin(rule))) {
                first = many == 0 ? rule : first;
                many++;
            }
        }
        return what == 0 ? many : first;
    }

    public int look(int n, int what) {
        if (plan == null || !within(n, 0, LAST_NOTED_STEP) || !within(what, 0, 1)) {
            return NONE;
        }
        Arrays.fill(table, 0);
        int fitting = 0;
        for (int rule = NONE; rule < ruleCount; rule++) {
            if (fitsNotes(tryFromBegin(rule))) {
                Round round = tryFromBegin(rule);
                goneIn(round, n);
                countCells(round);
                fitting++;
            }
        }
        if (fitting == 0) {
            return -2;
        }
        int best = 0;
        for (int car = 1; car < MOST_CARS; car++) {
            if (mostAlike(car) < mostAlike(best)) {
                best = car;
            }
        }
        return what == 0 ? best : mostAlike(best);
    }

    private void countCells(Round round) {
        for (int car = 0; car < MOST_CARS; car++) {
            table[car * (MOST_CELLS + 1) + round.cell[car] + 1]++;
        }
    }

    private int mostAlike(int car) {
        int most = 0;
        for (int k = 0; k <= MOST_CELLS; k++) {
            most = Math.max(most, table[car * (MOST_CELLS + 1) + k]);
        }
        return most;
    }

    // Drawn shows.

    public int seed(int x) {
        if (x < 0) {
            return NONE;
        }
        int was = this.x;
        this.x = x;
        return was;
    }

    public int shows(int m, int n, int p, int what) {
        if (plan == null || !within(m, 1, 10) || !within(n, 1, 60)) {
            return NONE;
        }
        if (!within(p, 0, 100) || !within(what, 0, 1)) {
            return NONE;
        }
        int kept = x;
        int gone = 0;
        int waiting = 0;
        for (int k = 0; k < m; k++) {
            Round round = tryFromNow();
            for (int i = 0; i < n; i++) {
                drawWaiting(round, p);
                gone += Integer.bitCount(engine.drive(round));
            }
            waiting += round.allWaiting();
        }
        x = kept;
        return what == 0 ? gone : waiting;
    }

    private void drawWaiting(Round round, int p) {
        int chance = draw() % 100;
        if (chance < p && plan.roads > 0) {
            int road = draw() % plan.roads;
            round.waits[road] = Math.min(MOST_WAITING, round.waits[road] + 1);
        }
    }

    private int draw() {
        x = (int) ((x * 1103515245L + 12345L) & 0x7fffffffL);
        return x / 65536;
    }

    // Images.

    public int image(int k) {
        if (k < 0 || k >= MOST_IMAGES) {
            return NONE;
        }
        Image image = images[k];
        image.made = true;
        image.plan = plan;
        image.round.copyFrom(now);
        image.inForce = inForce;
        image.x = x;
        image.notes.copyFrom(notes);
        return now.steps;
    }

    public int back(int k) {
        if (k < 0 || k >= MOST_IMAGES || !images[k].made) {
            return NONE;
        }
        Image image = images[k];
        plan = image.plan;
        now.copyFrom(image.round);
        inForce = image.inForce;
        x = image.x;
        notes.copyFrom(image.notes);
        undoCount = 0;
        return now.steps;
    }

    /** What a SHOW told; never changed once it is read, so that images can share it. */
    private static final class Plan {
        int cells = 0;
        int roads = 0;
        int told = 0;
        final int[] roadCell = new int[MOST_ROADS];
        final int[] roadEvery = new int[MOST_ROADS];
        final Round start = new Round();

        /** The CELLS, as bits, at which a ROAD told so far comes in. */
        int roadCells() {
            int bits = 0;
            for (int road = 0; road < roads; road++) {
                bits |= 1 << roadCell[road];
            }
            return bits;
        }
    }

    /** How all stands at the begin of a STEP. A CAR that is not ON has CELL and ROAD NONE, else 0. */
    private static final class Round {
        final int[] cell = {NONE, NONE, NONE, NONE, NONE, NONE};
        final int[] want = {NONE, NONE, NONE, NONE, NONE, NONE};
        final int[] fuel = new int[MOST_CARS];
        final int[] age = new int[MOST_CARS];
        final int[] waits = new int[MOST_ROADS];
        int taken = 0;
        int gaps = 0;
        int steps = 0;
        int gone = 0;

        void copyFrom(Round other) {
            for (int car = 0; car < MOST_CARS; car++) {
                cell[car] = other.cell[car];
                want[car] = other.want[car];
                fuel[car] = other.fuel[car];
                age[car] = other.age[car];
            }
            for (int road = 0; road < MOST_ROADS; road++) {
                waits[road] = other.waits[road];
            }
            taken = other.taken;
            gaps = other.gaps;
            steps = other.steps;
            gone = other.gone;
        }

        boolean hasGap(int cellAsked) {
            return (gaps >> cellAsked & 1) == 1;
        }

        void closeGap(int filled) {
            gaps &= ~(1 << filled);
        }

        boolean isFree(int cellAsked) {
            return ((taken | gaps) >> cellAsked & 1) == 0;
        }

        void comeOn(int car, int at, int wanted, int filled) {
            cell[car] = at;
            want[car] = wanted;
            fuel[car] = filled;
            taken |= 1 << at;
        }

        void goOn(int car, int next) {
            taken = taken & ~(1 << cell[car]) | 1 << next;
            cell[car] = next;
            fuel[car]--;
        }

        void goOff(int car) {
            taken &= ~(1 << cell[car]);
            cell[car] = NONE;
            want[car] = NONE;
            fuel[car] = 0;
            age[car] = 0;
            gone++;
        }

        void goOverGrass(int car) {
            gaps |= 1 << cell[car];
            goOff(car);
        }

        int carsOn() {
            int bits = 0;
            for (int car = 0; car < MOST_CARS; car++) {
                if (cell[car] != NONE) {
                    bits |= 1 << car;
                }
            }
            return bits;
        }

        int firstNotOn() {
            for (int car = 0; car < MOST_CARS; car++) {
                if (cell[car] == NONE) {
                    return car;
                }
            }
            return NONE;
        }

        int allWaiting() {
            int all = 0;
            for (int road = 0; road < MOST_ROADS; road++) {
                all += waits[road];
            }
            return all;
        }

        /** One number for all that a RING compares: alike just if CARS, CELLS and ROADS are. */
        long face() {
            long all = 0;
            for (int car = 0; car < MOST_CARS; car++) {
                all = all << 8 | (cell[car] + 1) << 3 | (want[car] + 1);
            }
            return all;
        }
    }

    /** Drives a STEP by a RULE, or by a chosen set of CARS in its place. */
    private static final class Engine {
        Plan plan = null;
        Rule rule = null;
        int closedRoad = NONE;
        int chosenSet = NONE;
        boolean stirred = false;
        private final long[] words = new long[RuleReader.WORD_COUNT];
        private final long[] stack = new long[RuleReader.MOST_COUNTED];

        /** One STEP: the CARS that go OFF in it, as bits. */
        int drive(Round round) {
            int off = 0;
            stirred = false;
            if (plan == null) {
                return 0;
            }
            for (int car = 0; car < MOST_CARS; car++) {
                if (round.cell[car] == NONE) {
                    continue;
                }
                if (round.fuel[car] > 0 && goesOff(round, car)) {
                    round.goOff(car);
                    stirred = true;
                    off |= 1 << car;
                } else {
                    goOnIfFree(round, car);
                    round.age[car]++;
                }
            }
            for (int road = 0; road < plan.roads; road++) {
                if (road != closedRoad) {
                    letCome(round, road);
                }
            }
            round.steps++;
            return off;
        }

        private void goOnIfFree(Round round, int car) {
            int next = round.cell[car] + 1 >= plan.cells ? 0 : round.cell[car] + 1;
            if (round.fuel[car] > 0 && round.isFree(next)) {
                round.goOn(car, next);
                stirred = true;
            }
        }

        /** The CARS that could go OFF in the coming STEP, as bits: none comes to its ROAD in it. */
        int ready(Round round) {
            int bits = 0;
            for (int car = 0; car < MOST_CARS; car++) {
                if (round.fuel[car] > 0 && isAtItsRoad(round, car)) {
                    bits |= 1 << car;
                }
            }
            return bits;
        }

        private boolean isAtItsRoad(Round round, int car) {
            int road = round.want[car];
            return plan != null && road >= 0 && road < plan.roads
                && plan.roadCell[road] == round.cell[car];
        }

        private boolean goesOff(Round round, int car) {
            if (!isAtItsRoad(round, car)) {
                return false;
            }
            if (chosenSet != NONE) {
                return (chosenSet >> car & 1) == 1;
            }
            if (rule == null) {
                return round.waits[round.want[car]] == 0;
            }
            setWords(round, car);
            return rule.allows(words, stack);
        }

        /** In the order of RuleReader.WORDS. */
        private void setWords(Round round, int car) {
            int road = round.want[car];
            words[0] = car;
            words[1] = road;
            words[2] = round.fuel[car];
            words[3] = round.waits[road];
            words[4] = cellsBehind(round, round.cell[car]);
            words[5] = Integer.bitCount(round.taken);
            words[6] = round.gone;
            words[7] = plan.cells > 0 ? round.age[car] / plan.cells : 0;
            words[8] = plan.roadEvery[road];
            words[9] = round.steps;
        }

        private int cellsBehind(Round round, int cell) {
            for (int k = 1; k < plan.cells; k++) {
                int behind = cell - k < 0 ? cell - k + plan.cells : cell - k;
                if ((round.taken >> behind & 1) == 1) {
                    return k;
                }
            }
            return plan.cells;
        }

        private void letCome(Round round, int road) {
            int every = plan.roadEvery[road];
            if (every > 0 && round.steps % every == 0 && round.waits[road] < MOST_WAITING) {
                round.waits[road]++;
            }
            int car = round.firstNotOn();
            if (round.waits[road] > 0 && round.isFree(plan.roadCell[road]) && car != NONE) {
                int wanted = road + 1 >= plan.roads ? 0 : road + 1;
                round.comeOn(car, plan.roadCell[road], wanted, 20);
                round.waits[road]--;
                stirred = true;
            }
        }
    }

    /** Tries all rows of sets, least first, so that the first of the best is the one that stays. */
    private static final class RowSearch {
        int most = 0;
        final int[] best = new int[LONGEST_ROW];
        private final int[] tried = new int[LONGEST_ROW];
        private final Round[] rounds = new Round[LONGEST_ROW];

        RowSearch() {
            for (int k = 0; k < LONGEST_ROW; k++) {
                rounds[k] = new Round();
            }
        }

        void search(Engine engine, Round from, int n) {
            most = NONE;
            rounds[0].copyFrom(from);
            trySets(engine, 0, Math.min(n, LONGEST_ROW), 0);
        }

        private void trySets(Engine engine, int depth, int n, int gone) {
            if (depth >= n || depth >= LONGEST_ROW) {
                return;
            }
            int ready = engine.ready(rounds[depth]);
            // In the last STEP the most go OFF by one set alone.
            if (depth == n - 1) {
                tried[depth] = ready;
                keepIfBest(gone + Integer.bitCount(ready));
                return;
            }
            // A set with a CAR that can't go OFF does as the lesser one without it: only parts
            // of those that are ready need be tried.
            for (int set = 0; set < 1 << MOST_CARS; set++) {
                if ((set & ~ready) == 0) {
                    rounds[depth + 1].copyFrom(rounds[depth]);
                    engine.chosenSet = set;
                    tried[depth] = set;
                    int off = engine.drive(rounds[depth + 1]);
                    trySets(engine, depth + 1, n, gone + Integer.bitCount(off));
                }
            }
        }

        private void keepIfBest(int gone) {
            if (gone > most) {
                most = gone;
                System.arraycopy(tried, 0, best, 0, LONGEST_ROW);
            }
        }
    }

    private static final class Notes {
        int size = 0;
        private final int[] steps = new int[MOST_NOTES];
        private final int[] cars = new int[MOST_NOTES];
        private final int[] cells = new int[MOST_NOTES];

        void add(int step, int car, int cell) {
            if (size < MOST_NOTES) {
                steps[size] = step;
                cars[size] = car;
                cells[size] = cell;
                size++;
            }
        }

        void copyFrom(Notes other) {
            size = other.size;
            System.arraycopy(other.steps, 0, steps, 0, MOST_NOTES);
            System.arraycopy(other.cars, 0, cars, 0, MOST_NOTES);
            System.arraycopy(other.cells, 0, cells, 0, MOST_NOTES);
        }

        int lastStep() {
            int last = NONE;
            for (int k = 0; k < size; k++) {
                last = Math.max(last, steps[k]);
            }
            return last;
        }

        boolean areSo(int step, Round round) {
            for (int k = 0; k < size; k++) {
                if (steps[k] == step && round.cell[cars[k]] != cells[k]) {
                    return false;
                }
            }
            return true;
        }
    }

    private static final class Image {
        boolean made = false;
        Plan plan = null;
        int inForce = NONE;
        int x = 0;
        final Round round = new Round();
        final Notes notes = new Notes();
    }

    /** A text's tokens one by one, and its first fault: behind that no token is given any more. */
    private static final class Reader {
        static final int END = 0;
        static final int NUMBER = 1;
        static final int WORD = 2;
        static final int SIGN = 3;
        static final int BROKEN = 4;

        static final int MISPLACED = 0;
        static final int WRONG_NUMBER = 1;
        static final int TOO_DEEP = 2;
        static final int TOO_MANY_COUNTED = 3;
        static final int WRONG_CLAUSE = 4;

        static final int WITH_EQUALS = 256;
        private static final int MOST_DIGITS = 5;

        int kind = END;
        int value = 0;
        int fault = 0;
        private final byte[] text = new byte[MOST_BYTES];
        private int length = 0;
        private int from = 0;
        private int to = 0;

        void open(byte[] tape, int bytes) {
            length = Math.max(0, Math.min(bytes, Math.min(tape.length, MOST_BYTES)));
            System.arraycopy(tape, 0, text, 0, length);
            fault = 0;
            to = 0;
            next();
        }

        void next() {
            if (fault != 0) {
                return;
            }
            from = to;
            while (from < length && text[from] == ' ') {
                from++;
            }
            to = from;
            if (from >= length) {
                kind = END;
                return;
            }
            kind = kindOf(text[from]);
            to++;
            if (kind == SIGN) {
                value = text[from];
                if ((value == '<' || value == '>') && to < length && text[to] == '=') {
                    value += WITH_EQUALS;
                    to++;
                }
                return;
            }
            value = text[from] - '0';
            while (to < length && kindOf(text[to]) == kind) {
                value = value * 10 + text[to] - '0';
                to++;
            }
        }

        private static int kindOf(byte sign) {
            if (sign >= '0' && sign <= '9') {
                return NUMBER;
            }
            return sign >= 'a' && sign <= 'z' ? WORD : SIGN;
        }

        void refuse(int why) {
            if (fault == 0) {
                fault = 1 + 8 * from + why;
                kind = BROKEN;
            }
        }

        boolean isSign(int sign) {
            return kind == SIGN && value == sign;
        }

        void takeSign(int sign) {
            if (!isSign(sign)) {
                refuse(MISPLACED);
            }
            next();
        }

        boolean isTooLong() {
            return to - from > MOST_DIGITS;
        }

        /** The NUMBER that is due here, none of those barred as bits; 0 behind a fault. */
        int takeNumber(int least, int most, int barred) {
            if (kind != NUMBER) {
                refuse(MISPLACED);
                return 0;
            }
            int number = value;
            boolean fits = !isTooLong() && number >= least && number <= most;
            if (!fits || (number < 32 && (barred >> number & 1) == 1)) {
                refuse(WRONG_NUMBER);
                return 0;
            }
            next();
            return number;
        }

        /** Which word of a list, parted by blanks, stands here; NONE, if none of them does. */
        int wordOf(String list) {
            if (kind != WORD) {
                return NONE;
            }
            int which = 0;
            int at = from;
            boolean alike = true;
            for (int k = 0; k <= list.length(); k++) {
                if (k == list.length() || list.charAt(k) == ' ') {
                    if (alike && at == to) {
                        return which;
                    }
                    which++;
                    at = from;
                    alike = true;
                } else {
                    alike = alike && at < to && text[at] == list.charAt(k);
                    at++;
                }
            }
            return NONE;
        }
    }

    private static final class ShowReader {
        private static final int MOST_CLAUSES = 40;
        private static final String WORDS = "show road car gap";
        private static final int SHOW = 0;
        private static final int ROAD = 1;
        private static final int CAR = 2;

        final Reader in = new Reader();

        /** What the text tells; null, if it has a fault. */
        Plan read(byte[] tape, int bytes) {
            Plan plan = new Plan();
            in.open(tape, bytes);
            for (int clause = 0; clause <= MOST_CLAUSES; clause++) {
                readClause(plan, clause);
                if (in.kind == Reader.END) {
                    return plan;
                }
                in.takeSign(';');
                if (in.fault != 0) {
                    return null;
                }
            }
            return null;
        }

        private void readClause(Plan plan, int clause) {
            int word = in.wordOf(WORDS);
            if (word == NONE) {
                in.refuse(Reader.MISPLACED);
                return;
            }
            if (clause >= MOST_CLAUSES || (word == SHOW) != (clause == 0)
                || (word == ROAD && plan.roads >= MOST_ROADS)
                || (word == CAR && plan.told >= MOST_CARS)) {
                in.refuse(Reader.WRONG_CLAUSE);
                return;
            }
            in.next();
            switch (word) {
                case SHOW:
                    plan.cells = in.takeNumber(3, MOST_CELLS, 0);
                    break;
                case ROAD:
                    readRoad(plan);
                    break;
                case CAR:
                    readCar(plan);
                    break;
                default:
                    readGap(plan);
                    break;
            }
        }

        private void readRoad(Plan plan) {
            int cell = in.takeNumber(0, plan.cells - 1, plan.roadCells());
            int every = in.takeNumber(1, 20, 0);
            if (in.fault == 0) {
                plan.roadCell[plan.roads] = cell;
                plan.roadEvery[plan.roads] = every;
                plan.roads++;
            }
        }

        private void readCar(Plan plan) {
            Round start = plan.start;
            int cell = in.takeNumber(0, plan.cells - 1, start.taken | start.gaps);
            int road = in.takeNumber(0, plan.roads - 1, 0);
            int fuel = in.takeNumber(0, 60, 0);
            if (in.fault == 0) {
                start.comeOn(plan.told, cell, road, fuel);
                plan.told++;
            }
        }

        private void readGap(Plan plan) {
            int cell = in.takeNumber(0, plan.cells - 1, plan.start.taken);
            if (in.fault == 0) {
                plan.start.gaps |= 1 << cell;
            }
        }
    }

    /** Turns a RULE's text into codes for a stack: values, each operator behind its two. */
    private static final class RuleReader {
        static final String WORDS = "car road fuel waiting behind on off rounds every step";
        static final int WORD_COUNT = 10;
        static final int MOST_COUNTED = 60;

        static final int FIRST_WORD = 100000;
        static final int FIRST_SIGN = FIRST_WORD + WORD_COUNT;
        static final int AT_MOST = '<' + Reader.WITH_EQUALS;
        static final int AT_LEAST = '>' + Reader.WITH_EQUALS;
        static final int AND = '&';
        static final int OR = '|';
        static final int NOT = '!';
        static final int CLAUSE = ';';
        static final int CLAUSE_WITH_TEST = '?';

        private static final int MOST_CLAUSES = 12;
        private static final int MOST_DEEP = 10;

        final Reader in = new Reader();
        // Each code stands for a byte of the text at least.
        private final int[] codes = new int[MOST_BYTES];
        private int size = 0;
        private int counted = 0;

        /** The RULE; null, if the text has a fault. */
        Rule read(byte[] tape, int bytes) {
            in.open(tape, bytes);
            size = 0;
            counted = 0;
            for (int clause = 0; clause <= MOST_CLAUSES; clause++) {
                readGo(clause);
                readSum();
                if (in.wordOf("if") == 0) {
                    in.next();
                    readTest(0);
                    putSign(CLAUSE_WITH_TEST);
                } else {
                    putSign(CLAUSE);
                }
                if (in.kind == Reader.END) {
                    return new Rule(Arrays.copyOf(codes, size));
                }
                in.takeSign(';');
                if (in.fault != 0) {
                    return null;
                }
            }
            return null;
        }

        private void put(int code) {
            if (size < codes.length) {
                codes[size] = code;
                size++;
            }
        }

        private void putSign(int sign) {
            put(FIRST_SIGN + sign);
        }

        private void countOne() {
            if (counted >= MOST_COUNTED) {
                in.refuse(Reader.TOO_MANY_COUNTED);
            }
            counted++;
        }

        private void readGo(int clause) {
            if (in.wordOf("go") != 0) {
                in.refuse(Reader.MISPLACED);
            } else if (clause >= MOST_CLAUSES) {
                in.refuse(Reader.WRONG_CLAUSE);
            }
            in.next();
        }

        private void readTest(int depth) {
            boolean orIsDue = false;
            readFact(depth);
            for (int k = 0; k < MOST_BYTES; k++) {
                int word = in.wordOf("and or");
                if (word == NONE) {
                    break;
                }
                in.next();
                if (word == 1 && orIsDue) {
                    putSign(OR);
                }
                orIsDue = orIsDue || word == 1;
                readFact(depth);
                if (word == 0) {
                    putSign(AND);
                }
            }
            if (orIsDue) {
                putSign(OR);
            }
        }

        private void readFact(int depth) {
            boolean turned = in.wordOf("not") == 0;
            if (turned || in.isSign('[')) {
                readNested(depth, turned);
                return;
            }
            readSum();
            int sign = in.value;
            boolean compares = sign == '<' || sign == '=' || sign == '>' || sign == AT_MOST
                || sign == AT_LEAST;
            if (in.kind != Reader.SIGN || !compares) {
                in.refuse(Reader.MISPLACED);
                return;
            }
            countOne();
            in.next();
            readSum();
            putSign(sign);
        }

        private void readNested(int depth, boolean turned) {
            if (depth >= MOST_DEEP) {
                in.refuse(Reader.TOO_DEEP);
                return;
            }
            in.next();
            if (turned) {
                readFact(depth + 1);
                putSign(NOT);
            } else {
                readTest(depth + 1);
                in.takeSign(']');
            }
        }

        private void readSum() {
            int due = NONE;
            readValue();
            for (int k = 0; k < MOST_BYTES && in.kind == Reader.SIGN; k++) {
                int sign = in.value;
                boolean adds = sign == '+' || sign == '-';
                if (!adds && sign != '*' && sign != '/' && sign != '%') {
                    break;
                }
                in.next();
                if (adds && due != NONE) {
                    putSign(due);
                }
                due = adds ? sign : due;
                readValue();
                if (!adds) {
                    putSign(sign);
                }
            }
            if (due != NONE) {
                putSign(due);
            }
        }

        private void readValue() {
            int word = in.wordOf(WORDS);
            if (word == NONE && in.kind != Reader.NUMBER) {
                in.refuse(Reader.MISPLACED);
                return;
            }
            if (word == NONE && in.isTooLong()) {
                in.refuse(Reader.WRONG_NUMBER);
                return;
            }
            countOne();
            put(word == NONE ? in.value : FIRST_WORD + word);
            in.next();
        }
    }

    private static final class Rule {
        private final int[] codes;

        Rule(int[] codes) {
            this.codes = codes;
        }

        /** Whether the SUM of the first CLAUSE that holds is above 0. */
        boolean allows(long[] words, long[] stack) {
            int size = 0;
            for (int k = 0; k < codes.length; k++) {
                int code = codes[k];
                int sign = code - RuleReader.FIRST_SIGN;
                if (sign < 0) {
                    if (size >= stack.length) {
                        return false;
                    }
                    stack[size] = code < RuleReader.FIRST_WORD ? code
                        : words[code - RuleReader.FIRST_WORD];
                    size++;
                    continue;
                }
                if (size < 1 || (size < 2 && takesTwo(sign))) {
                    return false;
                }
                long last = stack[size - 1];
                if (sign == RuleReader.CLAUSE) {
                    return last > 0;
                } else if (sign == RuleReader.NOT) {
                    stack[size - 1] = 1 - last;
                } else if (sign != RuleReader.CLAUSE_WITH_TEST) {
                    stack[size - 2] = join(sign, stack[size - 2], last);
                    size--;
                } else if (last != 0) {
                    return stack[size - 2] > 0;
                } else {
                    size -= 2;
                }
            }
            return false;
        }

        private static boolean takesTwo(int sign) {
            return sign != RuleReader.CLAUSE && sign != RuleReader.NOT;
        }

        private static long join(int sign, long one, long other) {
            switch (sign) {
                case '+':
                    return one + other;
                case '-':
                    return one - other;
                case '*':
                    return one * other;
                case '/':
                    return other == 0 ? 0 : one / other;
                case '%':
                    return other == 0 ? 0 : one % other;
                case RuleReader.AND:
                    return one & other;
                case RuleReader.OR:
                    return one | other;
                default:
                    return compared(sign, one, other) ? 1 : 0;
            }
        }

        private static boolean compared(int sign, long one, long other) {
            switch (sign) {
                case '<':
                    return one < other;
                case RuleReader.AT_MOST:
                    return one <= other;
                case '=':
                    return one == other;
                case RuleReader.AT_LEAST:
                    return one >= other;
                default:
                    return one > other;
            }
        }
    }
}
