import java.util.Arrays;

/** A slope with boulders that belong to whoever's land they lie on; the document's promises say what each call answers. */
public final class BoulderDowry {
    public static final int NONE = -1;
    public static final int NOTHING = -1000000000;

    private static final int MAX_TAPE = 1600;
    private static final int MAX_STATEMENTS = 100;
    private static final int MAX_CELLS = 60;
    private static final int MAX_OWNERS = 6;
    private static final int MAX_STONES = 10;
    private static final int MAX_HOUSES = 8;
    private static final int MAX_WALLS = 16;
    private static final int MAX_THAWS = 6;
    private static final int MAX_ROPES = 9;
    private static final int MAX_LAWS = 8;
    private static final int MAX_OPEN = 8;
    private static final int MAX_UNDO = 30;
    private static final int MAX_DUES = 99;
    private static final int MAX_NETS = 3;
    private static final int MAX_CREW = 3;
    private static final int MAX_CREW_MEN = 9;
    private static final int MAX_MEN = 99;
    private static final int MAX_QUARRY = 6;
    private static final int MAX_SPRINGS = 3;
    private static final int MAX_GOING_ON = 20;
    private static final int MAX_NUMBER = 9999;
    private static final int MAX_ROUGH = 99;
    private static final int MAX_PUSH = 99999;
    private static final int PUSH_OF_A_MAN = 10;
    private static final int MAX_IMAGE = MAX_STONES + MAX_HOUSES + 4 * MAX_CELLS + 1;

    private static final String OWN_WORDS = "field row rough at owner land to stone weight rest house worth wall thaw odds rope due when or and not all speed steps min max";
    // The own words by their places in OWN_WORDS; what a slope has is counted by them too.
    private static final int FIELD = 0;
    private static final int ROW = 1;
    private static final int ROUGH = 2;
    private static final int AT = 3;
    private static final int OWNER = 4;
    private static final int LAND = 5;
    private static final int TO = 6;
    private static final int STONE = 7;
    private static final int WEIGHT = 8;
    private static final int REST = 9;
    private static final int HOUSE = 10;
    private static final int WORTH = 11;
    private static final int WALL = 12;
    private static final int THAW = 13;
    private static final int ODDS = 14;
    private static final int ROPE = 15;
    private static final int DUE = 16;
    private static final int WHEN = 17;
    private static final int OR = 18;
    private static final int AND = 19;
    private static final int NOT = 20;
    private static final int ALL = 21;
    private static final int SPEED = 22;
    private static final int STEPS = 23;
    private static final int MIN = 24;
    private static final int MAX = 25;
    private static final int OWN_COUNT = 26;

    private static final int FAULT_SYNTAX = 1;
    private static final int FAULT_NAME_TWICE = 2;
    private static final int FAULT_NO_OWNER = 3;
    private static final int FAULT_NUMBER = 4;
    private static final int FAULT_TOO_MANY = 5;

    private static final int REFUSED_TAPE = 0;
    private static final int REFUSED_SLOPE = 1;
    private static final int REFUSED_ROLLING = 2;
    private static final int REFUSED_BUILDING = 3;
    private static final int REFUSED_UNDO = 4;
    private static final int REFUSED_STATE = 5;
    private static final int REFUSED_KINDS = 6;

    private static final int FEED_BYTES = 20;
    private static final int CHECK_START = 83;

    private final int[] tape = new int[MAX_TAPE];
    private int tapeLength;
    private final int[] picture = new int[MAX_IMAGE];
    private int pictureLength;
    private final int[] refused = new int[REFUSED_KINDS];
    private int draws = 1;
    private final SlopeReader reader = new SlopeReader();
    private Slope hill = new Slope();
    private Slope spare = new Slope();
    private final State now = new State();
    private final State trial = new State();
    private final State[] later = new State[MAX_SPRINGS];
    private final History past = new History();
    private final Ledger ledger = new Ledger();
    private final Mover mover = new Mover();
    private final NetSearch netSearch = new NetSearch();
    private final CrewSearch crewSearch = new CrewSearch();
    private final int[] ways = new int[1 << MAX_QUARRY];
    private final int[] quarried = new int[MAX_QUARRY];

    public BoulderDowry() {
        for (int i = 0; i < later.length; i++) {
            later[i] = new State();
        }
    }

    // ---- the tape and the slope

    public int feed(int a, int b, int c, int d, int e) {
        if (tapeLength + FEED_BYTES > MAX_TAPE) {
            return refuse(REFUSED_TAPE);
        }
        putOnTape(a);
        putOnTape(b);
        putOnTape(c);
        putOnTape(d);
        putOnTape(e);
        return tapeLength;
    }

    private void putOnTape(int number) {
        for (int shift = 24; shift >= 0; shift -= 8) {
            if (tapeLength < MAX_TAPE) {
                tape[tapeLength] = (number >>> shift) & 255;
                tapeLength++;
            }
        }
    }

    public boolean end(int n) {
        if (n < 0 || n > tapeLength) {
            refuse(REFUSED_TAPE);
            return false;
        }
        tapeLength = n;
        return true;
    }

    public int slope() {
        int statements = reader.readInto(spare, tape, tapeLength);
        tapeLength = 0;
        if (reader.tokens.fault != 0) {
            return refuse(REFUSED_SLOPE);
        }
        Slope old = hill;
        hill = spare;
        spare = old;
        now.begin(hill);
        forgetActs();
        return statements;
    }

    public int fault(int what) {
        switch (what) {
            case 0:
                return reader.tokens.fault;
            case 1:
                return reader.tokens.faultAt;
            default:
                return NONE;
        }
    }

    private int refuse(int kind) {
        if (within(kind, REFUSED_KINDS)) {
            refused[kind]++;
        }
        return NONE;
    }

    private static boolean within(int k, int count) {
        return k >= 0 && k < count;
    }

    private static boolean between(int number, int least, int most) {
        return number >= least && number <= most;
    }

    private static int oneIf(boolean is) {
        return is ? 1 : 0;
    }

    // ---- what there is

    public int has(int what) {
        switch (what) {
            case 0:
                return hill.count[OWNER];
            case 1:
                return hill.count[STONE];
            case 2:
                return hill.count[HOUSE];
            case 3:
                return wallsNow();
            case 4:
                return hill.count[THAW];
            case 5:
                return hill.count[ROPE];
            case 6:
                return hill.count[DUE];
            case 7:
                return hill.wide;
            case 8:
                return hill.high;
            case 9:
                return stonesNow();
            case 10:
                return Long.bitCount(now.nets);
            case 11:
                return past.count;
            case 12:
                return now.told;
            case 13:
                return draws;
            default:
                return NONE;
        }
    }

    private int wallsNow() {
        int walls = 0;
        for (int i = 0; i < hill.cells(); i++) {
            walls += oneIf(now.holds[i] > 0);
        }
        return walls;
    }

    private int stonesNow() {
        int stones = 0;
        for (int i = 0; i < hill.count[STONE]; i++) {
            stones += oneIf(now.place[i] != NONE);
        }
        return stones;
    }

    public int letter(int kind, int which, int k) {
        if (!within(kind, Slope.SORTS) || !within(k, Tokens.NAME_LETTERS)) {
            return NONE;
        }
        if (!within(which, hill.named(kind))) {
            return NONE;
        }
        return Tokens.letterOf(hill.name[kind][which], k);
    }

    public int cell(int place, int what) {
        if (!hill.hasCell(place)) {
            return NONE;
        }
        switch (what) {
            case 0:
                return hill.height[place];
            case 1:
                return now.rough[place];
            case 2:
                return hill.land[place];
            case 3:
                return now.stoneAt[place];
            case 4:
                return now.holds[place];
            case 5:
                return hill.houseAt[place];
            case 6:
                return hill.next[place];
            case 7:
                return hill.drop[place];
            case 8:
                return oneIf(now.hasNet(place));
            case 9:
                return hill.bottomOf(place);
            default:
                return NONE;
        }
    }

    public int stone(int stone, int what) {
        if (!hasStone(stone)) {
            return NONE;
        }
        switch (what) {
            case 0:
                return hill.weight[stone];
            case 1:
                return hill.rest[stone];
            case 2:
                return now.place[stone];
            case 3:
                return hill.ownerOf(now.place[stone]);
            case 4:
                return now.rolls[stone];
            case 5:
                return now.comes[stone];
            case 6:
                return now.leastPush(hill, stone);
            case 7:
                return oneIf(now.leansOn(hill, stone) != NONE);
            default:
                return NONE;
        }
    }

    private boolean hasStone(int stone) {
        return within(stone, hill.count[STONE]);
    }

    private boolean stoneLies(int stone) {
        return hasStone(stone) && now.place[stone] != NONE;
    }

    private boolean hasOwner(int owner) {
        return within(owner, hill.count[OWNER]);
    }

    public int house(int house, int what) {
        if (!within(house, hill.count[HOUSE])) {
            return NONE;
        }
        switch (what) {
            case 0:
                return hill.worth[house];
            case 1:
                return hill.housePlace[house];
            case 2:
                return oneIf(now.isRuin(house));
            case 3:
                return hill.ownerOf(hill.housePlace[house]);
            default:
                return NONE;
        }
    }

    public int owner(int owner, int what) {
        if (!hasOwner(owner)) {
            return NOTHING;
        }
        switch (what) {
            case 0:
                return cellsOf(owner);
            case 1:
                return stonesOf(owner, false);
            case 2:
                return stonesOf(owner, true);
            case 3:
                return wholeHousesOf(owner);
            case 4:
                return now.balance[owner];
            default:
                return NOTHING;
        }
    }

    private int cellsOf(int owner) {
        int cells = 0;
        for (int i = 0; i < hill.cells(); i++) {
            cells += oneIf(hill.land[i] == owner);
        }
        return cells;
    }

    private int stonesOf(int owner, boolean byWeight) {
        int sum = 0;
        for (int i = 0; i < hill.count[STONE]; i++) {
            if (hill.ownerOf(now.place[i]) == owner) {
                sum += byWeight ? hill.weight[i] : 1;
            }
        }
        return sum;
    }

    private int wholeHousesOf(int owner) {
        int houses = 0;
        for (int i = 0; i < hill.count[HOUSE]; i++) {
            houses += oneIf(hill.ownerOf(hill.housePlace[i]) == owner && !now.isRuin(i));
        }
        return houses;
    }

    public int due(int k, int what) {
        if (!within(k, now.told) || !within(what, Ledger.COLUMNS)) {
            return NONE;
        }
        return ledger.told(k, what);
    }

    public int law(int weight, int speed, int worth, int wall, int steps) {
        boolean can = between(weight, 0, MAX_NUMBER) && between(speed, 0, MAX_NUMBER)
                && between(worth, 0, MAX_NUMBER) && between(wall, 0, 1) && between(steps, 0, MAX_NUMBER);
        return can ? hill.laws.dueOf(weight, speed, worth, wall, steps) : NONE;
    }

    // ---- acts

    private void remember() {
        past.keep(now);
        netSearch.forget();
    }

    private void forgetActs() {
        past.count = 0;
        netSearch.forget();
    }

    public int lever(int stone, int men) {
        if (!stoneLies(stone) || !between(men, 1, MAX_MEN)) {
            return refuse(REFUSED_ROLLING);
        }
        remember();
        mover.pushOne(hill, now, stone, PUSH_OF_A_MAN * men);
        ledger.settle(hill, now, mover);
        return mover.pathLength;
    }

    public int spring(int strength) {
        if (!between(strength, 0, MAX_NUMBER)) {
            return refuse(REFUSED_ROLLING);
        }
        return springNow(strength);
    }

    private int springNow(int strength) {
        remember();
        mover.pushAll(hill, now, strength);
        ledger.settle(hill, now, mover);
        return mover.rolls;
    }

    public int goOn(int n) {
        if (!between(n, 1, MAX_GOING_ON) || hill.count[THAW] == 0) {
            return refuse(REFUSED_ROLLING);
        }
        int rolls = 0;
        for (int i = 0; i < n; i++) {
            rolls += springNow(hill.strength[drawnThaw()]);
        }
        return rolls;
    }

    private int drawnThaw() {
        int drawn = draw(hill.oddsOfAll());
        int odds = 0;
        for (int i = 0; i < hill.count[THAW]; i++) {
            odds += hill.odds[i];
            if (odds > drawn) {
                return i;
            }
        }
        return 0;
    }

    private int draw(int m) {
        draws = (int) ((1103515245L * draws + 12345L) & 0x7fffffffL);
        return m > 0 ? (draws / 64) % m : 0;
    }

    public boolean seed(int seed) {
        if (seed < 0) {
            refuse(REFUSED_STATE);
            return false;
        }
        draws = seed;
        return true;
    }

    public boolean net(int place, boolean is) {
        if (!hill.hasCell(place) || now.hasNet(place) == is) {
            refuse(REFUSED_BUILDING);
            return false;
        }
        remember();
        now.nets ^= 1L << place;
        return true;
    }

    public boolean wall(int place, int holds) {
        if (!hill.hasCell(place) || !between(holds, 1, MAX_NUMBER) || now.isBarred(hill, place)) {
            refuse(REFUSED_BUILDING);
            return false;
        }
        remember();
        now.holds[place] = holds;
        return true;
    }

    public int dig(int place, int deep) {
        if (!hill.hasCell(place) || !between(deep, 1, MAX_ROUGH)) {
            return refuse(REFUSED_BUILDING);
        }
        remember();
        now.rough[place] = Math.min(MAX_ROUGH, now.rough[place] + deep);
        return now.rough[place];
    }

    public int take(int stone) {
        if (!stoneLies(stone)) {
            return refuse(REFUSED_BUILDING);
        }
        remember();
        now.move(stone, NONE);
        return hill.weight[stone];
    }

    public boolean undo() {
        if (!past.giveBack(now)) {
            refuse(REFUSED_UNDO);
            return false;
        }
        netSearch.forget();
        return true;
    }

    // ---- what would be

    private void tryPush(int stone, int push) {
        trial.copy(now);
        mover.pushOne(hill, trial, stone, push);
    }

    private void tryThaw(int thaw) {
        trial.copy(now);
        mover.pushAll(hill, trial, hill.strength[thaw]);
    }

    public int path(int stone, int push, int k) {
        if (!stoneLies(stone) || !between(push, 0, MAX_PUSH)) {
            return NONE;
        }
        tryPush(stone, push);
        if (k == NONE) {
            return mover.pathLength;
        }
        return within(k, mover.pathLength) ? mover.path[k] : NONE;
    }

    public int roll(int stone, int push, int what) {
        if (!stoneLies(stone) || !between(push, 0, MAX_PUSH)) {
            return NONE;
        }
        tryPush(stone, push);
        switch (what) {
            case 0:
                return trial.place[stone];
            case 1:
                return mover.ruined;
            case 2:
                return mover.wallsGone;
            case 3:
                return mover.rolls;
            case 4:
                return mover.ruinedWorth;
            case 5:
                return mover.topSpeed;
            default:
                return NONE;
        }
    }

    public int thaw(int thaw, int what) {
        if (!within(thaw, hill.count[THAW])) {
            return NONE;
        }
        tryThaw(thaw);
        switch (what) {
            case 0:
                return hill.strength[thaw];
            case 1:
                return hill.odds[thaw];
            case 2:
                return mover.ruined;
            case 3:
                return mover.ruinedWorth;
            case 4:
                return mover.rolls;
            default:
                return NONE;
        }
    }

    public int lies(int stone, int place) {
        if (!hasStone(stone) || hill.count[THAW] == 0) {
            return NONE;
        }
        if (place == NONE) {
            return now.place[stone] == NONE ? 1000 : 0;
        }
        if (!hill.hasCell(place)) {
            return NONE;
        }
        int odds = 0;
        for (int i = 0; i < hill.count[THAW]; i++) {
            tryThaw(i);
            odds += trial.place[stone] == place ? hill.odds[i] : 0;
        }
        return thousandthsOfAll(odds);
    }

    public int hit(int house) {
        if (!within(house, hill.count[HOUSE]) || hill.count[THAW] == 0) {
            return NONE;
        }
        if (now.isRuin(house)) {
            return 0;
        }
        int odds = 0;
        for (int i = 0; i < hill.count[THAW]; i++) {
            tryThaw(i);
            odds += trial.isRuin(house) ? hill.odds[i] : 0;
        }
        return thousandthsOfAll(odds);
    }

    private int thousandthsOfAll(int odds) {
        int all = hill.oddsOfAll();
        return all > 0 ? 1000 * odds / all : 0;
    }

    public int worst(int what) {
        if (!within(what, 2) || hill.count[THAW] == 0) {
            return NONE;
        }
        int worst = 0;
        int worth = NONE;
        for (int i = 0; i < hill.count[THAW]; i++) {
            tryThaw(i);
            if (mover.ruinedWorth > worth) {
                worst = i;
                worth = mover.ruinedWorth;
            }
        }
        return what == 0 ? worst : worth;
    }

    // ---- men, nets

    public int men(int stone, int owner) {
        if (!stoneLies(stone) || !hasOwner(owner)) {
            return NONE;
        }
        // More men than start it change nothing, so only one man and the fewest that start it are worth a look.
        int starting = now.fewestMen(hill, stone);
        if (starting != 1 && hill.ownerOf(now.place[stone]) == owner) {
            return 1;
        }
        if (!between(starting, 1, MAX_MEN)) {
            return NONE;
        }
        tryPush(stone, PUSH_OF_A_MAN * starting);
        return hill.ownerOf(trial.place[stone]) == owner ? starting : NONE;
    }

    public int crew(int stones, int owner, int k) {
        if (!areLying(stones, MAX_CREW) || !hasOwner(owner)) {
            return NONE;
        }
        if (!between(k, NONE, MAX_CREW - 1) && !between(k, 10, 10 + MAX_CREW - 1)) {
            return NONE;
        }
        if (!crewSearch.find(hill, now, stones, owner)) {
            return NONE;
        }
        if (k == NONE) {
            return crewSearch.menTogether;
        }
        return k < 10 ? crewSearch.menOf(k) : crewSearch.stoneInOrder(k - 10);
    }

    /** Whether these bits are of 1 to that many stones, none of them taken. */
    private boolean areLying(int stones, int most) {
        int all = (1 << hill.count[STONE]) - 1;
        if ((stones & ~all) != 0 || !between(Integer.bitCount(stones), 1, most)) {
            return false;
        }
        for (int i = 0; i < hill.count[STONE]; i++) {
            if ((stones >> i & 1) == 1 && now.place[i] == NONE) {
                return false;
            }
        }
        return true;
    }

    public int nets(int k) {
        if (hill.cells() == 0 || k < NONE || k >= MAX_NETS) {
            return NONE;
        }
        netSearch.find(hill, now);
        return k == NONE ? netSearch.size : netSearch.placeOf(k);
    }

    // ---- dowries, whence, quarries

    public int dowry(int stone, int owner, int n, int what) {
        if (!stoneLies(stone) || !hasOwner(owner) || !between(n, 0, MAX_SPRINGS) || !within(what, 2)) {
            return NONE;
        }
        if (n > 0 && hill.count[THAW] == 0) {
            return NONE;
        }
        if (what == 1) {
            // Waiting never brings more than the whole weight, so what lies there is as well handed over now.
            return oneIf(n == 0 || hill.ownerOf(now.place[stone]) == owner);
        }
        long all = powerOfOdds(n);
        return all > 0 ? (int) (1000L * worthWithin(now, stone, owner, n) / all) : 0;
    }

    private long powerOfOdds(int n) {
        long power = 1;
        for (int i = 0; i < n; i++) {
            power *= hill.oddsOfAll();
        }
        return power;
    }

    private long worthWithin(State from, int stone, int owner, int left) {
        if (hill.ownerOf(from.place[stone]) == owner) {
            return hill.weight[stone] * powerOfOdds(left);
        }
        if (!between(left, 1, later.length)) {
            return 0;
        }
        State then = later[left - 1];
        long waited = 0;
        for (int i = 0; i < hill.count[THAW] && then != null; i++) {
            then.copy(from);
            mover.pushAll(hill, then, hill.strength[i]);
            waited += hill.odds[i] * worthWithin(then, stone, owner, left - 1);
        }
        return waited;
    }

    public int whence(int stone, int k) {
        if (!stoneLies(stone)) {
            return NONE;
        }
        int found = 0;
        for (int i = 0; i < hill.cells(); i++) {
            if (mayHaveComeFrom(stone, i)) {
                if (found == k) {
                    return i;
                }
                found++;
            }
        }
        return k == NONE ? found : NONE;
    }

    private boolean mayHaveComeFrom(int stone, int place) {
        if (now.isBarred(hill, place) || now.hasNet(place) || hill.next[place] == NONE) {
            return false;
        }
        trial.copy(now);
        trial.move(stone, place);
        return mover.rollsAlone(hill, trial, stone) && trial.place[stone] == now.place[stone];
    }

    public int leans(int first, int second) {
        if (!hasStone(first) || !hasStone(second)) {
            return NONE;
        }
        int under = now.leansOn(hill, first);
        for (int i = 0; i < MAX_STONES && under != NONE; i++) {
            if (under == second) {
                return 1;
            }
            under = now.leansOn(hill, under);
        }
        return 0;
    }

    public int quarry(int stones, int k) {
        if (!areLying(stones, MAX_QUARRY) || k < NONE) {
            return NONE;
        }
        int count = listQuarried(stones);
        countWays(count);
        if (k == NONE) {
            return ways[0];
        }
        return k < count && ways[0] > 0 ? quarriedAt(k, count) : NONE;
    }

    private int listQuarried(int stones) {
        int count = 0;
        for (int i = 0; i < MAX_STONES; i++) {
            if ((stones >> i & 1) == 1 && count < MAX_QUARRY) {
                quarried[count] = i;
                count++;
            }
        }
        return count;
    }

    /** Puts into ways, for each set that is taken already and lets nothing start, in how many orders the rest can follow. */
    private void countWays(int count) {
        int all = (1 << count) - 1;
        for (int taken = all; taken >= 0; taken--) {
            int sum = oneIf(taken == all);
            for (int i = 0; i < count; i++) {
                if ((taken >> i & 1) == 0) {
                    sum += ways[taken | 1 << i];
                }
            }
            // What starts ahead of the first one is of no matter.
            ways[taken] = taken == 0 || nothingStartsWithout(taken, count) ? sum : 0;
        }
    }

    private boolean nothingStartsWithout(int taken, int count) {
        trial.copy(now);
        for (int i = 0; i < count; i++) {
            if ((taken >> i & 1) == 1) {
                trial.move(quarried[i], NONE);
            }
        }
        for (int i = 0; i < hill.count[STONE]; i++) {
            if (trial.leastPush(hill, i) == 0 && trial.leansOn(hill, i) == NONE) {
                return false;
            }
        }
        return true;
    }

    private int quarriedAt(int k, int count) {
        int taken = 0;
        int last = NONE;
        for (int step = 0; step <= k; step++) {
            last = NONE;
            for (int i = 0; i < count && last == NONE; i++) {
                if ((taken >> i & 1) == 0 && ways[taken | 1 << i] > 0) {
                    last = quarried[i];
                    taken |= 1 << i;
                }
            }
        }
        return last;
    }

    public int ropes(int what) {
        int stone = heaviestStone();
        if (stone == NONE) {
            return NONE;
        }
        int load = hill.weight[stone] * hill.drop[now.place[stone]];
        int spareStrength = hill.ropesTogether() - load;
        switch (what) {
            case 0:
                return stone;
            case 1:
                return load;
            case 2:
                return hill.ropesTogether();
            case 3:
                return neededRopes(spareStrength);
            case 4:
                return neededPairs(spareStrength);
            case 5:
                return oneIf(spareStrength >= 0);
            default:
                return NONE;
        }
    }

    private int heaviestStone() {
        int heaviest = NONE;
        for (int i = 0; i < hill.count[STONE]; i++) {
            if (now.place[i] != NONE && (heaviest == NONE || hill.weight[i] > hill.weight[heaviest])) {
                heaviest = i;
            }
        }
        return heaviest;
    }

    private int neededRopes(int spareStrength) {
        int bits = 0;
        for (int i = 0; i < hill.count[ROPE]; i++) {
            bits |= oneIf(hill.rope[i] > spareStrength) << i;
        }
        return bits;
    }

    private int neededPairs(int spareStrength) {
        int pairs = 0;
        for (int i = 0; i < hill.count[ROPE]; i++) {
            for (int j = 0; j < i; j++) {
                pairs += oneIf(hill.rope[i] + hill.rope[j] > spareStrength);
            }
        }
        return pairs;
    }

    // ---- images, refusals

    public int image() {
        pictureLength = 0;
        for (int i = 0; i < hill.count[STONE]; i++) {
            putInPicture(now.place[i] == NONE ? 0 : now.place[i] + 1);
        }
        for (int i = 0; i < hill.count[HOUSE]; i++) {
            putInPicture(oneIf(now.isRuin(i)));
        }
        for (int i = 0; i < hill.cells(); i++) {
            putInPicture(now.holds[i] >> 8);
            putInPicture(now.holds[i] & 255);
            putInPicture(now.rough[i]);
            putInPicture(oneIf(now.hasNet(i)));
        }
        putInPicture(checkOf(picture, pictureLength));
        return pictureLength;
    }

    private void putInPicture(int octet) {
        if (pictureLength < MAX_IMAGE) {
            picture[pictureLength] = octet;
            pictureLength++;
        }
    }

    private static int checkOf(int[] bytes, int length) {
        int check = CHECK_START;
        for (int i = 0; i < length && i < bytes.length; i++) {
            check = (3 * check + bytes[i]) % 253;
        }
        return check;
    }

    public int octet(int k) {
        return within(k, pictureLength) ? picture[k] : NONE;
    }

    public boolean on() {
        boolean is = isImage();
        tapeLength = 0;
        if (!is) {
            refuse(REFUSED_STATE);
            return false;
        }
        now.copy(trial);
        forgetActs();
        return true;
    }

    /** Whether the tape is an image of this slope; what it tells is then in trial. */
    private boolean isImage() {
        int stones = hill.count[STONE];
        int houses = hill.count[HOUSE];
        int length = stones + houses + 4 * hill.cells() + 1;
        if (tapeLength != length || length > MAX_IMAGE || tape[length - 1] != checkOf(tape, length - 1)) {
            return false;
        }
        trial.begin(hill);
        for (int i = 0; i < stones; i++) {
            trial.move(i, NONE);
        }
        return readCells(stones + houses) && readHouses(stones) && readStones();
    }

    private boolean readCells(int from) {
        for (int i = 0; i < hill.cells(); i++) {
            int at = from + 4 * i;
            int holds = tape[at] << 8 | tape[at + 1];
            if (holds > MAX_NUMBER || tape[at + 2] > MAX_ROUGH || tape[at + 3] > 1) {
                return false;
            }
            trial.holds[i] = holds;
            trial.rough[i] = tape[at + 2];
            trial.nets |= (long) tape[at + 3] << i;
        }
        return true;
    }

    private boolean readHouses(int from) {
        for (int i = 0; i < hill.count[HOUSE]; i++) {
            int ruin = tape[from + i];
            if (ruin > 1 || ruin == 0 && trial.holds[hill.housePlace[i]] > 0) {
                return false;
            }
            trial.ruins |= ruin << i;
        }
        return true;
    }

    private boolean readStones() {
        for (int i = 0; i < hill.count[STONE]; i++) {
            int told = tape[i];
            if (told > 0) {
                if (!hill.hasCell(told - 1) || trial.isBarred(hill, told - 1)) {
                    return false;
                }
                trial.move(i, told - 1);
            }
        }
        return true;
    }

    public int status(int what) {
        return within(what, REFUSED_KINDS) ? refused[what] : NONE;
    }

    /** What the text tells: all that no act changes. */
    static final class Slope {
        static final int SORTS = 3;
        private static final int SORT_OWNER = 0;
        private static final int SORT_STONE = 1;
        private static final int SORT_HOUSE = 2;

        int wide;
        int high;
        final int[] height = new int[MAX_CELLS];
        final int[] next = new int[MAX_CELLS];
        final int[] drop = new int[MAX_CELLS];
        final int[] rough = new int[MAX_CELLS];
        final int[] holds = new int[MAX_CELLS];
        final int[] land = new int[MAX_CELLS];
        final int[] houseAt = new int[MAX_CELLS];
        final int[] count = new int[OWN_COUNT];
        final int[][] name = new int[SORTS][MAX_STONES];
        final int[] weight = new int[MAX_STONES];
        final int[] rest = new int[MAX_STONES];
        final int[] stonePlace = new int[MAX_STONES];
        final int[] worth = new int[MAX_HOUSES];
        final int[] housePlace = new int[MAX_HOUSES];
        final int[] strength = new int[MAX_THAWS];
        final int[] odds = new int[MAX_THAWS];
        final int[] rope = new int[MAX_ROPES];
        final LawBook laws = new LawBook();

        void clear() {
            wide = 0;
            high = 0;
            Arrays.fill(height, 0);
            Arrays.fill(rough, 0);
            Arrays.fill(holds, 0);
            Arrays.fill(land, NONE);
            Arrays.fill(houseAt, NONE);
            Arrays.fill(count, 0);
            laws.clear();
        }

        int cells() {
            return wide * high;
        }

        boolean hasCell(int place) {
            return place >= 0 && place < wide * high;
        }

        int named(int sort) {
            switch (sort) {
                case SORT_OWNER:
                    return count[OWNER];
                case SORT_STONE:
                    return count[STONE];
                case SORT_HOUSE:
                    return count[HOUSE];
                default:
                    return 0;
            }
        }

        /** The number of what bears that name among one sort, or NONE. */
        int find(int sort, int packed) {
            for (int i = 0; i < named(sort); i++) {
                if (name[sort][i] == packed) {
                    return i;
                }
            }
            return NONE;
        }

        boolean isFree(int place) {
            for (int i = 0; i < count[STONE]; i++) {
                if (stonePlace[i] == place) {
                    return false;
                }
            }
            return houseAt[place] == NONE && holds[place] == 0;
        }

        void findNexts() {
            for (int place = 0; place < cells(); place++) {
                int across = place % wide;
                int best = place;
                best = lower(best, place - wide, place >= wide);
                best = lower(best, place + 1, across < wide - 1);
                best = lower(best, place + wide, place + wide < cells());
                best = lower(best, place - 1, across > 0);
                next[place] = best == place ? NONE : best;
                drop[place] = height[place] - height[best];
            }
        }

        private int lower(int best, int other, boolean isThere) {
            return isThere && height[other] < height[best] ? other : best;
        }

        int nextOf(int place) {
            return hasCell(place) ? next[place] : NONE;
        }

        int bottomOf(int place) {
            int at = place;
            for (int i = 0; i < MAX_CELLS && nextOf(at) != NONE; i++) {
                at = nextOf(at);
            }
            return at;
        }

        int ownerOf(int place) {
            return hasCell(place) ? land[place] : NONE;
        }

        int oddsOfAll() {
            int sum = 0;
            for (int i = 0; i < count[THAW]; i++) {
                sum += odds[i];
            }
            return sum;
        }

        int ropesTogether() {
            int sum = 0;
            for (int i = 0; i < count[ROPE]; i++) {
                sum += rope[i];
            }
            return sum;
        }
    }

    /** All that acts change, so that one copy is enough to undo an act or to try one out. */
    static final class State {
        final int[] place = new int[MAX_STONES];
        final int[] rolls = new int[MAX_STONES];
        final int[] comes = new int[MAX_STONES];
        final int[] stoneAt = new int[MAX_CELLS];
        final int[] holds = new int[MAX_CELLS];
        final int[] rough = new int[MAX_CELLS];
        final int[] balance = new int[MAX_OWNERS];
        long nets;
        int ruins;
        int told;

        void copy(State from) {
            System.arraycopy(from.place, 0, place, 0, MAX_STONES);
            System.arraycopy(from.rolls, 0, rolls, 0, MAX_STONES);
            System.arraycopy(from.comes, 0, comes, 0, MAX_STONES);
            System.arraycopy(from.stoneAt, 0, stoneAt, 0, MAX_CELLS);
            System.arraycopy(from.holds, 0, holds, 0, MAX_CELLS);
            System.arraycopy(from.rough, 0, rough, 0, MAX_CELLS);
            System.arraycopy(from.balance, 0, balance, 0, MAX_OWNERS);
            nets = from.nets;
            ruins = from.ruins;
            told = from.told;
        }

        void begin(Slope slope) {
            Arrays.fill(place, NONE);
            Arrays.fill(rolls, 0);
            Arrays.fill(comes, 0);
            Arrays.fill(stoneAt, NONE);
            System.arraycopy(slope.holds, 0, holds, 0, MAX_CELLS);
            System.arraycopy(slope.rough, 0, rough, 0, MAX_CELLS);
            Arrays.fill(balance, 0);
            nets = 0;
            ruins = 0;
            told = 0;
            for (int i = 0; i < slope.count[STONE]; i++) {
                move(i, slope.stonePlace[i]);
            }
        }

        /** Puts a stone into a cell, or out of all of them (NONE). */
        void move(int stone, int to) {
            int from = place[stone];
            if (from >= 0 && from < MAX_CELLS) {
                stoneAt[from] = NONE;
            }
            if (to >= 0 && to < MAX_CELLS) {
                stoneAt[to] = stone;
            }
            place[stone] = to;
        }

        boolean hasNet(int at) {
            return (nets >> at & 1) == 1;
        }

        boolean isRuin(int house) {
            return (ruins >> house & 1) == 1;
        }

        boolean hasWholeHouse(Slope slope, int at) {
            int house = slope.houseAt[at];
            return house != NONE && !isRuin(house);
        }

        /** Whether a stone, a wall or a whole house is in a cell. */
        boolean isBarred(Slope slope, int at) {
            return stoneAt[at] != NONE || holds[at] > 0 || hasWholeHouse(slope, at);
        }

        /** The least push by which a stone starts; NONE if none does. */
        int leastPush(Slope slope, int stone) {
            int at = place[stone];
            if (slope.nextOf(at) == NONE) {
                return NONE;
            }
            return Math.max(0, slope.rest[stone] - slope.drop[at] + 1);
        }

        boolean starts(Slope slope, int stone, int push) {
            int at = place[stone];
            return at >= 0 && at < MAX_CELLS && slope.next[at] != NONE && push + slope.drop[at] > slope.rest[stone];
        }

        /** The fewest men who start a stone; NONE if none do. */
        int fewestMen(Slope slope, int stone) {
            int least = leastPush(slope, stone);
            if (least == NONE) {
                return NONE;
            }
            return Math.max(1, (least + PUSH_OF_A_MAN - 1) / PUSH_OF_A_MAN);
        }

        /** The stone on which a stone leans at once; NONE if it is not held. */
        int leansOn(Slope slope, int stone) {
            int next = slope.nextOf(place[stone]);
            return next == NONE ? NONE : stoneAt[next];
        }
    }

    /** The states ahead of the latest acts, in a ring, so that the oldest gives way. */
    static final class History {
        private final State[] ring = new State[MAX_UNDO];
        private int newest;
        int count;

        History() {
            for (int i = 0; i < ring.length; i++) {
                ring[i] = new State();
            }
        }

        void keep(State state) {
            newest = (newest + 1) % MAX_UNDO;
            State kept = ring[newest];
            if (kept != null) {
                kept.copy(state);
            }
            count = Math.min(MAX_UNDO, count + 1);
        }

        boolean giveBack(State state) {
            State kept = ring[newest];
            if (count == 0 || kept == null) {
                return false;
            }
            state.copy(kept);
            newest = (newest + MAX_UNDO - 1) % MAX_UNDO;
            count--;
            return true;
        }
    }

    /** The dues that are told. How many there are stands in the state, so that what is undone is written over. */
    static final class Ledger {
        static final int COLUMNS = 4;

        private final int[] rows = new int[MAX_DUES * COLUMNS];

        int told(int k, int what) {
            int at = k * COLUMNS + what;
            return within(at, rows.length) ? rows[at] : NONE;
        }

        /** Lets the laws say what is due for all that a mover has broken. */
        void settle(Slope slope, State state, Mover mover) {
            for (int i = 0; i < mover.claimCount; i++) {
                int at = i * Mover.CLAIM_COLUMNS;
                int[] claim = mover.claims;
                int stone = claim[at + 2];
                int sum = slope.laws.dueOf(slope.weight[stone], claim[at + 3], claim[at + 4], claim[at + 5], claim[at + 6]);
                charge(state, claim[at], claim[at + 1], sum, stone);
            }
        }

        private void charge(State state, int payer, int receiver, int sum, int stone) {
            state.balance[payer] -= sum;
            state.balance[receiver] += sum;
            if (sum > 0 && state.told < MAX_DUES) {
                int at = state.told * COLUMNS;
                rows[at] = payer;
                rows[at + 1] = receiver;
                rows[at + 2] = sum;
                rows[at + 3] = stone;
                state.told++;
            }
        }
    }

    /** Rolls stones over a state, and tells what came of it. */
    static final class Mover {
        static final int CLAIM_COLUMNS = 7;
        // No wall is built and no house mended while stones roll.
        private static final int MAX_CLAIMS = MAX_CELLS + MAX_HOUSES;

        final int[] path = new int[MAX_CELLS];
        int pathLength;
        int rolls;
        int ruined;
        int ruinedWorth;
        int wallsMet;
        int wallsGone;
        int topSpeed;
        long entered;
        // Of each: payer, receiver, stone, speed, worth, whether it was a wall, steps.
        final int[] claims = new int[MAX_CLAIMS * CLAIM_COLUMNS];
        int claimCount;
        private Slope slope;
        private State state;
        private boolean firstRoll;
        private int stone;
        private int speed;
        private int steps;
        private int payer;

        private void begin(Slope on, State of) {
            slope = on;
            state = of;
            firstRoll = true;
            pathLength = 0;
            rolls = 0;
            ruined = 0;
            ruinedWorth = 0;
            wallsMet = 0;
            wallsGone = 0;
            topSpeed = 0;
            entered = 0;
            claimCount = 0;
        }

        void pushAll(Slope on, State of, int push) {
            pushSome(on, of, 0, on.count[STONE], push, false);
        }

        void pushOne(Slope on, State of, int which, int push) {
            pushSome(on, of, which, which + 1, push, false);
        }

        /** Each stone of a row of them that starts by a push rolls, and all that it pushes. */
        void pushSome(Slope on, State of, int from, int to, int push, boolean stopsAtRuin) {
            begin(on, of);
            for (int i = from; i < to && i < MAX_STONES && !(stopsAtRuin && ruined > 0); i++) {
                int rolling = state.starts(slope, i, push) ? i : NONE;
                // A pushed stone goes on below the one that pushes it, so none comes twice.
                for (int k = 0; k < MAX_STONES && rolling != NONE; k++) {
                    rolling = rollOnce(rolling);
                }
            }
        }

        /** Rolls a stone once, whatever its rest; answers whether this alters no wall, no house, no other stone. */
        boolean rollsAlone(Slope on, State of, int which) {
            begin(on, of);
            int started = rollOnce(which);
            return started == NONE && wallsMet == 0 && ruined == 0;
        }

        /** One roll of a stone that lies somewhere; answers the stone that this starts, or NONE. */
        private int rollOnce(int which) {
            stone = which;
            speed = 0;
            steps = 0;
            payer = slope.ownerOf(state.place[which]);
            rolls++;
            state.rolls[which]++;
            int pushed = NONE;
            boolean rolling = true;
            for (int i = 0; i < MAX_CELLS && rolling; i++) {
                int next = slope.nextOf(state.place[which]);
                if (next == NONE) {
                    break;
                }
                speed += slope.drop[state.place[which]];
                topSpeed = Math.max(topSpeed, speed);
                int other = state.stoneAt[next];
                if (other == NONE) {
                    rolling = goesOnFrom(next, speed * slope.weight[which]);
                } else {
                    int push = quotient(speed * slope.weight[which], slope.weight[other]);
                    pushed = state.starts(slope, other, push) ? other : NONE;
                    rolling = false;
                }
            }
            firstRoll = false;
            return pushed;
        }

        private static int quotient(int whole, int by) {
            return by > 0 ? whole / by : 0;
        }

        /** What happens at the next cell, in which no stone is; answers whether the stone rolls on from it. */
        private boolean goesOnFrom(int next, int force) {
            int held = state.holds[next];
            int house = slope.houseAt[next];
            wallsMet += oneIf(held > 0);
            if (held > 0 && force <= held) {
                state.holds[next] = held - force;
                return false;
            }
            if (held > 0) {
                claim(next, held, 1);
                state.holds[next] = 0;
                wallsGone++;
                speed = quotient(force - held, slope.weight[stone]);
            } else if (house != NONE && !state.isRuin(house)) {
                claim(next, slope.worth[house], 0);
                state.ruins |= 1 << house;
                ruined++;
                ruinedWorth += slope.worth[house];
                comeInto(next);
                return false;
            }
            comeInto(next);
            if (state.hasNet(next)) {
                return false;
            }
            speed -= state.rough[next];
            return speed > 0;
        }

        private void claim(int at, int worth, int isWall) {
            int receiver = slope.land[at];
            if (payer == NONE || receiver == NONE || payer == receiver || claimCount >= MAX_CLAIMS) {
                return;
            }
            int row = claimCount * CLAIM_COLUMNS;
            claims[row] = payer;
            claims[row + 1] = receiver;
            claims[row + 2] = stone;
            claims[row + 3] = speed;
            claims[row + 4] = worth;
            claims[row + 5] = isWall;
            claims[row + 6] = steps;
            claimCount++;
        }

        private void comeInto(int at) {
            state.stoneAt[state.place[stone]] = NONE;
            state.stoneAt[at] = stone;
            state.place[stone] = at;
            state.comes[stone]++;
            steps++;
            entered |= 1L << at;
            if (firstRoll && pathLength < MAX_CELLS) {
                path[pathLength] = at;
                pathLength++;
            }
        }
    }

    /** Looks for the fewest nets with which no thaw ruins a house. */
    static final class NetSearch {
        private final Mover mover = new Mover();
        private final State trial = new State();
        private Slope slope;
        private State now;
        private boolean known;
        private boolean found;
        private long best;
        int size;

        void forget() {
            known = false;
        }

        void find(Slope on, State from) {
            if (known) {
                return;
            }
            slope = on;
            now = from;
            known = true;
            found = false;
            best = 0;
            long free = freeCells();
            for (int nets = 0; nets <= MAX_NETS && !found; nets++) {
                grow(0, free, nets);
            }
            size = found ? Long.bitCount(best) : NONE;
        }

        private long freeCells() {
            long free = 0;
            for (int i = 0; i < slope.cells(); i++) {
                if (!now.isBarred(slope, i) && !now.hasNet(i)) {
                    free |= 1L << i;
                }
            }
            return free;
        }

        /**
         * Tries all sets of that many nets more. A net on which no stone comes ahead of the first ruin would alter
         * nothing, so one of the cells of that trail must be in each set that helps; and once a cell's sets have been
         * tried, the cells behind it need not try it again.
         */
        private void grow(long chosen, long free, int more) {
            long trail = trailToRuin(chosen);
            if (trail == 0) {
                keepIfFirst(chosen);
                return;
            }
            if (more <= 0) {
                return;
            }
            long untried = free;
            for (int i = 0; i < slope.cells(); i++) {
                long bit = 1L << i;
                if ((trail & free & bit) != 0) {
                    untried &= ~bit;
                    grow(chosen | bit, untried, more - 1);
                }
            }
        }

        /** Of rows of like length the one with the lowest place that the other one lacks is the first. */
        private void keepIfFirst(long chosen) {
            long apart = chosen ^ best;
            if (!found || (chosen & apart & -apart) != 0) {
                best = chosen;
                found = true;
            }
        }

        /** The cells into which stones come until the first thaw that ruins a house does so; 0 if none does. */
        private long trailToRuin(long nets) {
            for (int i = 0; i < slope.count[THAW]; i++) {
                trial.copy(now);
                trial.nets |= nets;
                mover.pushSome(slope, trial, 0, slope.count[STONE], slope.strength[i], true);
                if (mover.ruined > 0) {
                    return mover.entered;
                }
            }
            return 0;
        }

        int placeOf(int k) {
            int seen = 0;
            for (int i = 0; i < MAX_CELLS && found; i++) {
                if ((best >> i & 1) == 1) {
                    if (seen == k) {
                        return i;
                    }
                    seen++;
                }
            }
            return NONE;
        }
    }

    /** Looks for the fewest men who bring stones to an owner. */
    static final class CrewSearch {
        private final Mover mover = new Mover();
        private final State[] after = new State[MAX_CREW];
        private final int[] stones = new int[MAX_CREW];
        private final int[] men = new int[MAX_CREW];
        private final int[] order = new int[MAX_CREW];
        private final int[] bestMen = new int[MAX_CREW];
        private final int[] bestOrder = new int[MAX_CREW];
        private Slope slope;
        private int owner;
        private int count;
        int menTogether;

        CrewSearch() {
            for (int i = 0; i < after.length; i++) {
                after[i] = new State();
            }
        }

        boolean find(Slope on, State now, int bits, int forOwner) {
            slope = on;
            owner = forOwner;
            count = 0;
            menTogether = NONE;
            Arrays.fill(men, 0);
            for (int i = 0; i < MAX_STONES; i++) {
                if ((bits >> i & 1) == 1 && count < MAX_CREW) {
                    stones[count] = i;
                    count++;
                }
            }
            place(now, 0, 0);
            return menTogether != NONE;
        }

        /** Tries each stone that is left as the next one in the order. */
        private void place(State from, int depth, int used) {
            if (depth >= count || depth >= MAX_CREW) {
                judge(from);
                return;
            }
            for (int i = 0; i < count; i++) {
                if ((used >> i & 1) == 0) {
                    order[depth] = i;
                    leverOrLeave(from, depth, used | 1 << i);
                }
            }
        }

        /** More men than start a stone, or fewer, do no more than the fewest who do, or none: two ways are enough. */
        private void leverOrLeave(State from, int depth, int used) {
            int which = order[depth];
            men[which] = 0;
            place(from, depth + 1, used);
            int fewest = from.fewestMen(slope, stones[which]);
            State then = after[depth];
            if (then == null || !between(fewest, 1, MAX_CREW_MEN)) {
                return;
            }
            order[depth] = which;
            men[which] = fewest;
            then.copy(from);
            mover.pushOne(slope, then, stones[which], PUSH_OF_A_MAN * fewest);
            place(then, depth + 1, used);
        }

        private void judge(State last) {
            int sum = 0;
            for (int i = 0; i < count; i++) {
                if (slope.ownerOf(last.place[stones[i]]) != owner) {
                    return;
                }
                sum += men[i];
            }
            // Orders are tried by numbers, so of like ones the first stays.
            if (menTogether == NONE || sum < menTogether || sum == menTogether && isFewerFirst()) {
                menTogether = sum;
                System.arraycopy(men, 0, bestMen, 0, MAX_CREW);
                System.arraycopy(order, 0, bestOrder, 0, MAX_CREW);
            }
        }

        private boolean isFewerFirst() {
            for (int i = 0; i < count; i++) {
                if (men[i] != bestMen[i]) {
                    return men[i] < bestMen[i];
                }
            }
            return false;
        }

        int menOf(int k) {
            return within(k, count) ? bestMen[k] : NONE;
        }

        int stoneInOrder(int k) {
            return within(k, count) ? stones[bestOrder[k]] : NONE;
        }
    }

    /** The laws as rows of codes, each worked off with a stack: a number from 0 on stands for itself. */
    static final class LawBook {
        static final int FACT_WEIGHT = -1;
        static final int FACT_SPEED = -2;
        static final int FACT_WORTH = -3;
        static final int FACT_WALL = -4;
        static final int FACT_STEPS = -5;
        static final int ADD = -6;
        static final int SUBTRACT = -7;
        static final int MULTIPLY = -8;
        static final int DIVIDE = -9;
        static final int MODULO = -10;
        static final int LEAST = -11;
        static final int GREATEST = -12;
        static final int BELOW = -13;
        static final int ABOVE = -14;
        static final int EQUAL = -15;
        static final int BOTH = -16;
        static final int EITHER = -17;
        static final int NEGATE = -18;
        private static final int FACTS = 5;
        private static final int MAX_SUM = 1000000;
        // Eight brackets with at most three numbers waiting in each, and some ahead of them.
        private static final int MAX_STACK = 64;

        private final int[] code = new int[MAX_TAPE];
        private int length;
        private final int[] sumAt = new int[MAX_LAWS];
        private final int[] testAt = new int[MAX_LAWS];
        private final int[] endAt = new int[MAX_LAWS];
        private int laws;
        private final int[] facts = new int[FACTS];
        private final int[] stack = new int[MAX_STACK];
        private int depth;

        void clear() {
            length = 0;
            laws = 0;
        }

        void put(int next) {
            if (length < MAX_TAPE) {
                code[length] = next;
                length++;
            }
        }

        void beginSum() {
            if (laws < MAX_LAWS) {
                sumAt[laws] = length;
            }
        }

        void beginTest() {
            if (laws < MAX_LAWS) {
                testAt[laws] = length;
            }
        }

        void endLaw() {
            if (laws < MAX_LAWS) {
                endAt[laws] = length;
                laws++;
            }
        }

        int dueOf(int weight, int speed, int worth, int wall, int steps) {
            facts[0] = weight;
            facts[1] = speed;
            facts[2] = worth;
            facts[3] = wall;
            facts[4] = steps;
            for (int i = 0; i < laws; i++) {
                if (reckon(testAt[i], endAt[i]) != 0) {
                    return Math.max(0, Math.min(MAX_NUMBER, reckon(sumAt[i], testAt[i])));
                }
            }
            return 0;
        }

        private int reckon(int from, int to) {
            depth = 0;
            for (int i = from; i < to && i < MAX_TAPE; i++) {
                work(code[i]);
            }
            return pop();
        }

        private void work(int next) {
            if (next >= 0) {
                push(next);
            } else if (next >= -FACTS) {
                push(facts[-1 - next]);
            } else if (next == NEGATE) {
                push(oneIf(pop() == 0));
            } else {
                int right = pop();
                int left = pop();
                push(join(next, left, right));
            }
        }

        private void push(int number) {
            if (depth < MAX_STACK) {
                stack[depth] = number;
                depth++;
            }
        }

        private int pop() {
            if (depth <= 0) {
                return 0;
            }
            depth--;
            return stack[depth];
        }

        private static int join(int by, int left, int right) {
            switch (by) {
                case ADD:
                    return cut(left + right);
                case SUBTRACT:
                    return cut(left - right);
                case MULTIPLY:
                    return cut((long) left * right);
                case DIVIDE:
                    return right == 0 ? 0 : Math.floorDiv(left, right);
                case MODULO:
                    return right == 0 ? 0 : Math.floorMod(left, right);
                case LEAST:
                    return Math.min(left, right);
                case GREATEST:
                    return Math.max(left, right);
                case BELOW:
                    return oneIf(left < right);
                case ABOVE:
                    return oneIf(left > right);
                case EQUAL:
                    return oneIf(left == right);
                case BOTH:
                    return left & right;
                case EITHER:
                    return left | right;
                default:
                    return 0;
            }
        }

        private static int cut(long number) {
            return (int) Math.max(-MAX_SUM, Math.min(MAX_SUM, number));
        }
    }

    /** The words, numbers and signs of a text, and its fault; a broken one is a fault only where a reader comes to it. */
    static final class Tokens {
        static final int NAME_LETTERS = 6;
        static final int END = 0;
        static final int NAME = 1;
        static final int OWN = 2;
        static final int NUMBER = 3;
        static final int SIGN = 4;
        static final int BROKEN = 5;
        private static final int NUMBER_DIGITS = 4;
        private static final int LETTER_BITS = 5;

        private final int[] own = new int[OWN_COUNT];
        private final int[] kinds = new int[MAX_TAPE + 1];
        private final int[] firsts = new int[MAX_TAPE + 1];
        private final int[] values = new int[MAX_TAPE + 1];
        private int count;
        private int index;
        // The token that comes, and where the fault is if no slope goes on with it.
        int kind;
        int first;
        int value;
        int unfitAt;
        int takenFirst;
        int fault;
        int faultAt = NONE;

        Tokens() {
            int word = 0;
            int letters = 0;
            for (int i = 0; i < OWN_WORDS.length(); i++) {
                char sign = OWN_WORDS.charAt(i);
                if (sign == ' ') {
                    word++;
                    letters = 0;
                } else if (word < OWN_COUNT) {
                    own[word] = withLetter(own[word], letters, sign);
                    letters++;
                }
            }
        }

        /** A word is kept as one number, five bits a letter, the first letter highest. */
        private static int withLetter(int packed, int k, int sign) {
            return packed | (sign - 'a' + 1) << LETTER_BITS * (NAME_LETTERS - 1 - k);
        }

        static int letterOf(int packed, int k) {
            return packed >> LETTER_BITS * (NAME_LETTERS - 1 - k) & 31;
        }

        void begin(int[] text, int length) {
            fault = 0;
            faultAt = NONE;
            count = 0;
            boolean wordy = false;
            int at = 0;
            // Each round goes on by a byte at least.
            for (int round = 0; round < MAX_TAPE && at < length && at < text.length; round++) {
                int sign = text[at];
                int from = at;
                if (isLetter(sign) || isDigit(sign)) {
                    at = isLetter(sign) ? readWord(text, from, length) : readNumber(text, from, length);
                    if (wordy) {
                        // A word and a number side by side need a blank.
                        breakLast(from);
                    }
                    wordy = true;
                } else {
                    if (!isBlank(sign)) {
                        put(SIGN, from, sign);
                    }
                    wordy = false;
                    at++;
                }
            }
            put(END, length, 0);
            index = NONE;
            advance();
        }

        private static boolean isBlank(int sign) {
            return sign == ' ' || sign == 10;
        }

        private static boolean isLetter(int sign) {
            return sign >= 'a' && sign <= 'z';
        }

        private static boolean isDigit(int sign) {
            return sign >= '0' && sign <= '9';
        }

        private void put(int what, int from, int number) {
            if (count < kinds.length) {
                kinds[count] = what;
                firsts[count] = from;
                values[count] = number;
                count++;
            }
        }

        private void breakLast(int where) {
            if (count > 0) {
                kinds[count - 1] = BROKEN;
                values[count - 1] = where;
            }
        }

        /** Puts the word from there on; answers where it ends. */
        private int readWord(int[] text, int from, int length) {
            int packed = 0;
            int at = from;
            while (at < length && at < text.length && isLetter(text[at])) {
                if (at - from < NAME_LETTERS) {
                    packed = withLetter(packed, at - from, text[at]);
                }
                at++;
            }
            int which = ownWord(packed);
            if (which == NONE) {
                put(NAME, from, packed);
            } else {
                put(OWN, from, which);
            }
            if (at - from > NAME_LETTERS) {
                breakLast(from + NAME_LETTERS);
            }
            return at;
        }

        private int ownWord(int packed) {
            for (int i = 0; i < OWN_COUNT; i++) {
                if (own[i] == packed) {
                    return i;
                }
            }
            return NONE;
        }

        /** Puts the number from there on; answers where it ends. */
        private int readNumber(int[] text, int from, int length) {
            int number = 0;
            int at = from;
            while (at < length && at < text.length && isDigit(text[at])) {
                if (at - from < NUMBER_DIGITS) {
                    number = 10 * number + text[at] - '0';
                }
                at++;
            }
            put(NUMBER, from, number);
            if (at - from > NUMBER_DIGITS) {
                breakLast(from + NUMBER_DIGITS);
            }
            return at;
        }

        /** Goes on to the next token; behind a fault there is none. */
        void advance() {
            takenFirst = first;
            if (fault == 0 && index + 1 < count) {
                index++;
                kind = kinds[index];
                first = firsts[index];
                value = values[index];
                unfitAt = kind == BROKEN ? value : first;
            }
        }

        void fail(int what, int where) {
            if (fault == 0) {
                fault = what;
                faultAt = where;
                // So that whatever a reader still asks for is not there.
                kind = BROKEN;
            }
        }

        boolean isSign(char sign) {
            return kind == SIGN && value == sign;
        }

        boolean isOwn(int which) {
            return kind == OWN && value == which;
        }

        void needSign(char sign) {
            if (kind == SIGN && value == sign) {
                advance();
            } else {
                fail(FAULT_SYNTAX, unfitAt);
            }
        }

        void needOwn(int which) {
            if (kind == OWN && value == which) {
                advance();
            } else {
                fail(FAULT_SYNTAX, unfitAt);
            }
        }

        /** The number that comes, or NONE with a fault. */
        int needNumber(int least, int most) {
            int number = value;
            if (kind != NUMBER) {
                fail(FAULT_SYNTAX, unfitAt);
                return NONE;
            }
            if (number < least || number > most) {
                fail(FAULT_NUMBER, first);
                return NONE;
            }
            advance();
            return number;
        }

        /** The name that comes, packed, or NONE with a fault. */
        int needName() {
            int name = value;
            if (kind != NAME) {
                fail(FAULT_SYNTAX, unfitAt);
                return NONE;
            }
            advance();
            return name;
        }
    }

    /** Reads the statements of a slope. */
    static final class SlopeReader {
        final Tokens tokens = new Tokens();
        private final LawReader lawReader = new LawReader();
        private Slope slope;

        /** Answers how many statements there are; whether there is a fault stands in tokens. */
        int readInto(Slope into, int[] text, int length) {
            slope = into;
            slope.clear();
            tokens.begin(text, length);
            int statements = 0;
            while (statements < MAX_STATEMENTS && tokens.fault == 0 && tokens.kind != Tokens.END) {
                readStatement(statements == 0);
                statements++;
            }
            if (statements == 0) {
                tokens.fail(FAULT_SYNTAX, tokens.unfitAt);
            }
            if (tokens.kind != Tokens.END) {
                tokens.fail(FAULT_TOO_MANY, tokens.first);
            }
            if (tokens.fault == 0) {
                slope.findNexts();
            }
            return statements;
        }

        private void readStatement(boolean isFirst) {
            int kind = needKind(isFirst);
            switch (kind) {
                case FIELD:
                    readField();
                    break;
                case ROW:
                    readRow();
                    break;
                case ROUGH:
                    readRough();
                    break;
                case OWNER:
                    slope.name[Slope.SORT_OWNER][slope.count[OWNER]] = needNewName();
                    break;
                case LAND:
                    readLand();
                    break;
                case STONE:
                    readStone(slope.count[STONE]);
                    break;
                case HOUSE:
                    readHouse(slope.count[HOUSE]);
                    break;
                case WALL:
                    readWall();
                    break;
                case THAW:
                    readThaw(slope.count[THAW]);
                    break;
                case ROPE:
                    slope.rope[slope.count[ROPE]] = tokens.needNumber(1, MAX_NUMBER);
                    break;
                case DUE:
                    lawReader.readLaw(tokens, slope.laws);
                    break;
                default:
                    return;
            }
            tokens.needSign(';');
            slope.count[kind]++;
        }

        /** The word that begins the statement that comes, or NONE with a fault. */
        private int needKind(boolean isFirst) {
            int kind = tokens.kind == Tokens.OWN ? tokens.value : NONE;
            int most = mostOf(kind);
            if (most == NONE || isFirst != (kind == FIELD)) {
                tokens.fail(FAULT_SYNTAX, tokens.unfitAt);
                return NONE;
            }
            if (slope.count[kind] >= most) {
                tokens.fail(FAULT_TOO_MANY, tokens.first);
                return NONE;
            }
            tokens.advance();
            return kind;
        }

        /** How many statements of a kind there may be; NONE for a word that begins none. */
        private int mostOf(int kind) {
            switch (kind) {
                case FIELD:
                    return 1;
                case ROW:
                    return slope.high;
                case ROUGH:
                case LAND:
                    return MAX_STATEMENTS;
                case OWNER:
                    return MAX_OWNERS;
                case STONE:
                    return MAX_STONES;
                case HOUSE:
                    return MAX_HOUSES;
                case WALL:
                    return MAX_WALLS;
                case THAW:
                    return MAX_THAWS;
                case ROPE:
                    return MAX_ROPES;
                case DUE:
                    return MAX_LAWS;
                default:
                    return NONE;
            }
        }

        private void readField() {
            int wide = tokens.needNumber(2, 10);
            if (wide < 2) {
                return;
            }
            int high = tokens.needNumber(2, Math.min(10, MAX_CELLS / wide));
            if (high >= 2) {
                slope.wide = wide;
                slope.high = high;
            }
        }

        private void readRow() {
            int from = slope.count[ROW] * slope.wide;
            for (int i = from; i < from + slope.wide && i < MAX_CELLS; i++) {
                slope.height[i] = tokens.needNumber(0, 999);
            }
        }

        private void readRough() {
            int rough = tokens.needNumber(1, MAX_ROUGH);
            tokens.needOwn(AT);
            int place = needCell(0, 0);
            if (place != NONE) {
                slope.rough[place] = rough;
            }
        }

        private void readLand() {
            int owner = needOwner();
            tokens.needOwn(AT);
            int from = needCell(0, 0);
            tokens.needOwn(TO);
            if (from == NONE || slope.wide == 0) {
                return;
            }
            int left = from % slope.wide;
            int top = from / slope.wide;
            int to = needCell(left, top);
            for (int i = from; i <= to; i++) {
                int across = i % slope.wide;
                if (across >= left && across <= to % slope.wide) {
                    slope.land[i] = owner;
                }
            }
        }

        private void readStone(int stone) {
            slope.name[Slope.SORT_STONE][stone] = needNewName();
            tokens.needOwn(WEIGHT);
            slope.weight[stone] = tokens.needNumber(1, 999);
            tokens.needOwn(REST);
            slope.rest[stone] = tokens.needNumber(0, MAX_NUMBER);
            slope.stonePlace[stone] = needFreeCell();
        }

        private void readHouse(int house) {
            slope.name[Slope.SORT_HOUSE][house] = needNewName();
            tokens.needOwn(WORTH);
            slope.worth[house] = tokens.needNumber(1, 999);
            int place = needFreeCell();
            slope.housePlace[house] = place;
            if (place != NONE) {
                slope.houseAt[place] = house;
            }
        }

        private void readWall() {
            int holds = tokens.needNumber(1, MAX_NUMBER);
            int place = needFreeCell();
            if (place != NONE) {
                slope.holds[place] = holds;
            }
        }

        private void readThaw(int thaw) {
            slope.strength[thaw] = tokens.needNumber(0, MAX_NUMBER);
            tokens.needOwn(ODDS);
            slope.odds[thaw] = tokens.needNumber(1, 99);
        }

        private int needNewName() {
            int name = tokens.needName();
            for (int sort = 0; sort < Slope.SORTS; sort++) {
                if (slope.find(sort, name) != NONE) {
                    tokens.fail(FAULT_NAME_TWICE, tokens.takenFirst);
                }
            }
            return name;
        }

        private int needOwner() {
            int owner = slope.find(Slope.SORT_OWNER, tokens.needName());
            if (owner == NONE) {
                tokens.fail(FAULT_NO_OWNER, tokens.takenFirst);
            }
            return owner;
        }

        /** The place of the cell that comes, none of whose numbers is below these; NONE with a fault. */
        private int needCell(int leastAcross, int leastDown) {
            int across = tokens.needNumber(leastAcross, slope.wide - 1);
            int down = tokens.needNumber(leastDown, slope.high - 1);
            int place = down * slope.wide + across;
            return tokens.fault == 0 && slope.hasCell(place) ? place : NONE;
        }

        private int needFreeCell() {
            tokens.needOwn(AT);
            int place = needCell(0, 0);
            if (place != NONE && !slope.isFree(place)) {
                tokens.fail(FAULT_NUMBER, tokens.takenFirst);
                return NONE;
            }
            return place;
        }
    }

    /** Reads a law, part by part, into codes in which each sign stands behind what it joins. */
    static final class LawReader {
        private Tokens tokens;
        private LawBook book;

        void readLaw(Tokens from, LawBook into) {
            tokens = from;
            book = into;
            book.beginSum();
            readSum(0);
            tokens.needOwn(WHEN);
            book.beginTest();
            readTest(0);
            book.endLaw();
        }

        private void readTest(int open) {
            readBoth(open);
            for (int i = 0; i < MAX_TAPE && tokens.isOwn(OR); i++) {
                tokens.advance();
                readBoth(open);
                book.put(LawBook.EITHER);
            }
        }

        private void readBoth(int open) {
            readFact(open);
            for (int i = 0; i < MAX_TAPE && tokens.isOwn(AND); i++) {
                tokens.advance();
                readFact(open);
                book.put(LawBook.BOTH);
            }
        }

        private void readFact(int open) {
            boolean negated = false;
            for (int i = 0; i < MAX_TAPE && tokens.isOwn(NOT); i++) {
                tokens.advance();
                negated = !negated;
            }
            if (tokens.isSign('[')) {
                if (opens(open)) {
                    readTest(open + 1);
                    tokens.needSign(']');
                }
            } else if (tokens.isOwn(ALL)) {
                tokens.advance();
                book.put(1);
            } else {
                readSum(open);
                int code = needComparison();
                readSum(open);
                book.put(code);
            }
            if (negated) {
                book.put(LawBook.NEGATE);
            }
        }

        private int needComparison() {
            int code = 0;
            if (tokens.isSign('<')) {
                code = LawBook.BELOW;
            } else if (tokens.isSign('>')) {
                code = LawBook.ABOVE;
            } else if (tokens.isSign('=')) {
                code = LawBook.EQUAL;
            } else {
                tokens.fail(FAULT_SYNTAX, tokens.unfitAt);
            }
            tokens.advance();
            return code;
        }

        private void readSum(int open) {
            readProduct(open);
            for (int i = 0; i < MAX_TAPE && (tokens.isSign('+') || tokens.isSign('-')); i++) {
                int code = tokens.value == '+' ? LawBook.ADD : LawBook.SUBTRACT;
                tokens.advance();
                readProduct(open);
                book.put(code);
            }
        }

        private void readProduct(int open) {
            readPart(open);
            for (int i = 0; i < MAX_TAPE && productCode() != 0; i++) {
                int code = productCode();
                tokens.advance();
                readPart(open);
                book.put(code);
            }
        }

        private int productCode() {
            if (tokens.isSign('*')) {
                return LawBook.MULTIPLY;
            }
            if (tokens.isSign('/')) {
                return LawBook.DIVIDE;
            }
            return tokens.isSign('%') ? LawBook.MODULO : 0;
        }

        private void readPart(int open) {
            if (tokens.kind == Tokens.NUMBER) {
                book.put(tokens.value);
                tokens.advance();
            } else if (tokens.isOwn(MIN) || tokens.isOwn(MAX)) {
                readChoice(tokens.value == MIN ? LawBook.LEAST : LawBook.GREATEST, open);
            } else if (tokens.isSign('(')) {
                if (opens(open)) {
                    readSum(open + 1);
                    tokens.needSign(')');
                }
            } else if (tokens.kind == Tokens.OWN && factCode(tokens.value) != 0) {
                book.put(factCode(tokens.value));
                tokens.advance();
            } else {
                tokens.fail(FAULT_SYNTAX, tokens.unfitAt);
            }
        }

        private void readChoice(int code, int open) {
            tokens.advance();
            if (!tokens.isSign('(')) {
                tokens.fail(FAULT_SYNTAX, tokens.unfitAt);
            } else if (opens(open)) {
                readSum(open + 1);
                tokens.needSign(',');
                readSum(open + 1);
                tokens.needSign(')');
                book.put(code);
            }
        }

        /** Takes the bracket that comes, if no more than may be are open. */
        private boolean opens(int open) {
            if (open >= MAX_OPEN) {
                tokens.fail(FAULT_TOO_MANY, tokens.first);
                return false;
            }
            tokens.advance();
            return true;
        }

        private static int factCode(int word) {
            switch (word) {
                case WEIGHT:
                    return LawBook.FACT_WEIGHT;
                case SPEED:
                    return LawBook.FACT_SPEED;
                case WORTH:
                    return LawBook.FACT_WORTH;
                case WALL:
                    return LawBook.FACT_WALL;
                case STEPS:
                    return LawBook.FACT_STEPS;
                default:
                    return 0;
            }
        }
    }
}
