import java.util.ArrayDeque;
import java.util.ArrayList;
import java.util.Deque;
import java.util.List;
import java.util.Random;

/** Slopes and acts by chance (always the same chance): each answer is held against Model. */
public final class ModelTest {
    private static final int NONE = BoulderDowry.NONE;

    private final Random random;
    private final String name;
    private Model m;
    private BoulderDowry x = new BoulderDowry();
    private final Deque<Model> past = new ArrayDeque<>();
    private long seed = 1;

    private ModelTest(int run) {
        random = new Random(run);
        name = "run " + run + ": ";
    }

    private void due(String what, long got, long want) {
        Check.due(name + what, got, want);
    }

    private static int one(boolean is) {
        return is ? 1 : 0;
    }

    /** Roughness and lands take many statements, so the text has what fits, and the model is brought to that. */
    private boolean begin(int most) {
        m = Model.random(random, most);
        StringBuilder text = new StringBuilder(m.text());
        int statements = 0;
        for (int i = 0; i < text.length(); i++) {
            statements += one(text.charAt(i) == ';');
        }
        for (int i = 0; i < m.cells(); i++) {
            String at = i % m.wide + " " + i / m.wide;
            String more = m.rough[i] == 0 ? "" : "rough " + m.rough[i] + " at " + at + ";";
            int extra = one(m.rough[i] > 0);
            boolean told = m.land[i] >= 0;
            if (told) {
                int wide = 0;
                while (wide + i % m.wide + 1 < m.wide && m.land[i + wide + 1] == m.land[i]) {
                    wide++;
                }
                boolean behind = i % m.wide > 0 && m.land[i - 1] == m.land[i];
                more += behind ? "" : "land " + m.owners.get(m.land[i]) + " at " + at + " to " + (i % m.wide + wide) + " " + i / m.wide + ";";
                extra += one(!behind);
            }
            if (statements + extra > 100 || text.length() + more.length() > 1600) {
                return false;
            }
            text.append(more);
            statements += extra;
        }
        due("slope() of " + text, Check.tell(x, text.toString()), statements);
        past.clear();
        return true;
    }

    private void act() {
        Model before = m.copy();
        int stone = random.nextInt(m.stones.size() + 1);
        int place = random.nextInt(m.cells());
        boolean lies = stone < m.stones.size() && m.stones.get(stone).place >= 0;
        boolean acted = true;
        switch (random.nextInt(8)) {
            case 0:
                int men = 1 + random.nextInt(12);
                m.reset();
                if (lies) {
                    m.push(stone, 10 * men);
                }
                due("lever", x.lever(stone, men), lies ? m.way.size() : NONE);
                acted = lies;
                break;
            case 1:
                int strength = random.nextInt(60);
                m.reset();
                m.spring(strength);
                due("spring", x.spring(strength), m.rolls);
                break;
            case 2:
                goOn();
                return;
            case 3:
                boolean is = random.nextInt(4) > 0;
                acted = m.net[place] != is;
                m.net[place] = is;
                due("net", one(x.net(place, is)), one(acted));
                break;
            case 4:
                int holds = 1 + random.nextInt(500);
                acted = m.bare(place);
                due("wall", one(x.wall(place, holds)), one(acted));
                if (acted) {
                    m.holds[place] = holds;
                }
                break;
            case 5:
                int deep = 1 + random.nextInt(60);
                m.rough[place] = Math.min(99, m.rough[place] + deep);
                due("dig", x.dig(place, deep), m.rough[place]);
                break;
            case 6:
                acted = lies && random.nextInt(3) == 0;
                if (acted) {
                    due("take", x.take(stone), m.stones.get(stone).weight);
                    m.stones.get(stone).place = -1;
                }
                break;
            default:
                due("undo", one(x.undo()), one(!past.isEmpty()));
                if (!past.isEmpty()) {
                    m = past.pop();
                }
                return;
        }
        if (acted) {
            keep(before);
        }
    }

    private void keep(Model before) {
        past.push(before);
        if (past.size() > 30) {
            past.removeLast();
        }
    }

    private void goOn() {
        int n = 1 + random.nextInt(random.nextInt(4) == 0 ? 20 : 2);
        int rolls = 0;
        for (int i = 0; i < n && !m.thaws.isEmpty(); i++) {
            keep(m.copy());
            seed = (1103515245L * seed + 12345) % (1L << 31);
            long drawn = seed / 64 % m.oddsOfAll();
            int thaw = 0;
            for (long odds = m.thaws.get(0)[1]; odds <= drawn; odds += m.thaws.get(thaw)[1]) {
                thaw++;
            }
            m.reset();
            m.spring(m.thaws.get(thaw)[0]);
            rolls += m.rolls;
        }
        due("goOn", x.goOn(n), m.thaws.isEmpty() ? NONE : rolls);
        due("has(13)", x.has(13), seed);
    }

    private void compareState() {
        int walls = 0;
        int nets = 0;
        for (int i = 0; i < m.cells(); i++) {
            walls += one(m.holds[i] > 0);
            nets += one(m.net[i]);
            int end = i;
            while (m.next(end) >= 0) {
                end = m.next(end);
            }
            int[] want = {m.height[i], m.rough[i], m.land[i], m.stoneAt(i), m.holds[i], m.houseAt(i), m.next(i), m.drop(i), one(m.net[i]), end};
            for (int k = 0; k < want.length; k++) {
                due("cell(" + i + ", " + k + ")", x.cell(i, k), want[k]);
            }
        }
        int left = 0;
        for (int i = 0; i < m.stones.size(); i++) {
            Model.Stone s = m.stones.get(i);
            left += one(s.place >= 0);
            int least = NONE;
            for (int push = 0; push <= s.rest + 1 && least == NONE; push++) {
                least = m.starts(i, push) ? push : NONE;
            }
            int[] want = {s.weight, s.rest, s.place, m.ownerOfStone(i), s.rolls, s.comes, least, one(m.held(i))};
            for (int k = 0; k < want.length; k++) {
                due("stone(" + i + ", " + k + ")", x.stone(i, k), want[k]);
            }
        }
        for (int i = 0; i < m.houses.size(); i++) {
            Model.House h = m.houses.get(i);
            int[] want = {h.worth, h.place, one(h.ruin), m.land[h.place]};
            for (int k = 0; k < want.length; k++) {
                due("house(" + i + ", " + k + ")", x.house(i, k), want[k]);
            }
        }
        int[] has = {m.owners.size(), m.stones.size(), m.houses.size(), walls, m.thaws.size(), m.ropes.size(), m.laws.size(),
            m.wide, m.high, left, nets, past.size(), m.dues.size(), (int) seed};
        for (int k = 0; k < has.length; k++) {
            due("has(" + k + ")", x.has(k), has[k]);
        }
        compareOwners();
    }

    private void compareOwners() {
        int balances = 0;
        for (int o = 0; o < m.owners.size(); o++) {
            int[] want = new int[5];
            for (int i = 0; i < m.cells(); i++) {
                want[0] += one(m.land[i] == o);
            }
            for (int i = 0; i < m.stones.size(); i++) {
                want[1] += one(m.ownerOfStone(i) == o);
                want[2] += m.ownerOfStone(i) == o ? m.stones.get(i).weight : 0;
            }
            for (Model.House h : m.houses) {
                want[3] += one(m.land[h.place] == o && !h.ruin);
            }
            want[4] = m.balance[o];
            balances += x.owner(o, 4);
            for (int k = 0; k < want.length; k++) {
                due("owner(" + o + ", " + k + ")", x.owner(o, k), want[k]);
            }
        }
        due("all balances", balances, 0);
        for (int i = 0; i < m.dues.size(); i++) {
            Model.Due d = m.dues.get(i);
            int[] want = {d.payer, d.receiver, d.sum, d.stone};
            for (int k = 0; k < want.length; k++) {
                due("due(" + i + ", " + k + ")", x.due(i, k), want[k]);
            }
        }
    }

    private void compareImage() {
        List<Integer> want = m.image();
        due("image()", x.image(), want.size());
        byte[] bytes = new byte[want.size()];
        for (int i = 0; i < want.size(); i++) {
            due("octet(" + i + ")", x.octet(i), want.get(i));
            bytes[i] = (byte) (int) want.get(i);
        }
        if (random.nextInt(4) == 0) {
            Check.feed(x, bytes);
            due("on()", one(x.on()), 1);
            past.clear();
            m.dues.clear();
            m.balance = new int[m.owners.size()];
            for (Model.Stone s : m.stones) {
                s.rolls = 0;
                s.comes = 0;
            }
        }
    }

    private void compareRolls() {
        for (int i = 0; i < m.stones.size(); i++) {
            int push = random.nextInt(random.nextBoolean() ? 120 : 100000);
            boolean lies = m.stones.get(i).place >= 0;
            Model p = m.pushed(i, push);
            int[] want = {p.stones.get(i).place, p.ruins, p.wallsGone, p.rolls, p.worth, p.top};
            for (int k = 0; k < want.length; k++) {
                due("roll(" + i + ", " + push + ", " + k + ")", x.roll(i, push, k), lies ? want[k] : NONE);
            }
            due("path length", x.path(i, push, NONE), lies ? p.way.size() : NONE);
            for (int k = 0; k <= p.way.size(); k++) {
                due("path(" + i + ", " + push + ", " + k + ")", x.path(i, push, k), k < p.way.size() ? p.way.get(k) : NONE);
            }
        }
        for (int i = 0; i < m.thaws.size(); i++) {
            Model t = m.sprung(i);
            int[] want = {m.thaws.get(i)[0], m.thaws.get(i)[1], t.ruins, t.worth, t.rolls};
            for (int k = 0; k < want.length; k++) {
                due("thaw(" + i + ", " + k + ")", x.thaw(i, k), want[k]);
            }
        }
    }

    private void compareOdds() {
        boolean thaws = !m.thaws.isEmpty();
        for (int i = 0; i < m.stones.size(); i++) {
            int place = random.nextInt(m.cells());
            int thawed = thaws ? m.sprung(random.nextInt(m.thaws.size())).stones.get(i).place : NONE;
            due("lies", x.lies(i, place), thaws ? m.lies(i, place) : NONE);
            due("lies NONE", x.lies(i, NONE), thaws ? 1000 * one(m.stones.get(i).place < 0) : NONE);
            if (thawed >= 0) {
                due("lies where it comes", x.lies(i, thawed), m.lies(i, thawed));
            }
        }
        for (int i = 0; i < m.houses.size(); i++) {
            due("hit", x.hit(i), thaws ? m.hit(i) : NONE);
        }
        int[] worst = m.worst();
        due("worst(0)", x.worst(0), worst[0]);
        due("worst(1)", x.worst(1), worst[1]);
    }

    private void compareMen() {
        for (int o = 0; o < m.owners.size(); o++) {
            for (int i = 0; i < m.stones.size(); i++) {
                due("men(" + i + ", " + o + ")", x.men(i, o), m.stones.get(i).place < 0 ? NONE : m.men(i, o));
            }
            if (!m.stones.isEmpty()) {
                compareCrew(someStones(3), o);
            }
        }
    }

    private int someStones(int most) {
        int bits = 0;
        for (int k = 0; k < most; k++) {
            bits |= 1 << random.nextInt(m.stones.size());
        }
        return bits;
    }

    private boolean someTaken(int bits) {
        for (int i : Model.bits(bits)) {
            if (m.stones.get(i).place < 0) {
                return true;
            }
        }
        return false;
    }

    private void compareCrew(int bits, int owner) {
        int n = Integer.bitCount(bits);
        int[] want = someTaken(bits) ? null : m.crew(bits, owner);
        String call = "crew(" + bits + ", " + owner + ", ";
        due(call + "NONE)", x.crew(bits, owner, NONE), want == null ? NONE : want[0]);
        for (int k = 0; k < 4; k++) {
            due(call + k + ")", x.crew(bits, owner, k), want == null || k >= n ? NONE : want[1 + k]);
            due(call + (10 + k) + ")", x.crew(bits, owner, 10 + k), want == null || k >= n ? NONE : want[1 + n + k]);
        }
    }

    private void compareNets() {
        List<Integer> want = m.nets();
        due("nets(NONE)", x.nets(NONE), want == null ? NONE : want.size());
        for (int k = 0; k < 4; k++) {
            due("nets(" + k + ")", x.nets(k), want == null || k >= want.size() ? NONE : want.get(k));
        }
    }

    private void compareDowries() {
        for (int o = 0; o < m.owners.size(); o++) {
            for (int i = 0; i < m.stones.size(); i++) {
                int n = random.nextInt(4);
                boolean can = m.stones.get(i).place >= 0 && (n == 0 || !m.thaws.isEmpty());
                long all = 1;
                for (int k = 0; k < n; k++) {
                    all *= m.oddsOfAll();
                }
                String call = "dowry(" + i + ", " + o + ", " + n + ", ";
                due(call + "0)", x.dowry(i, o, n, 0), can ? 1000 * m.worthWithin(i, o, n) / all : NONE);
                boolean now = n == 0 || m.ownerOfStone(i) == o && m.handed(i, o, n) >= m.waited(i, o, n);
                due(call + "1)", x.dowry(i, o, n, 1), can ? one(now) : NONE);
            }
        }
    }

    private void compareStillness() {
        for (int i = 0; i < m.stones.size(); i++) {
            List<Integer> from = m.stones.get(i).place < 0 ? null : m.whence(i);
            due("whence(" + i + ", NONE)", x.whence(i, NONE), from == null ? NONE : from.size());
            for (int k = 0; from != null && k <= from.size(); k++) {
                due("whence(" + i + ", " + k + ")", x.whence(i, k), k < from.size() ? from.get(k) : NONE);
            }
            for (int j = 0; j < m.stones.size(); j++) {
                due("leans(" + i + ", " + j + ")", x.leans(i, j), one(m.leans(i, j)));
            }
        }
        if (!m.stones.isEmpty()) {
            int bits = someStones(5);
            List<List<Integer>> want = someTaken(bits) ? null : m.quarry(bits);
            due("quarry(" + bits + ", NONE)", x.quarry(bits, NONE), want == null ? NONE : want.size());
            for (int k = 0; k < 7; k++) {
                boolean is = want != null && !want.isEmpty() && k < Integer.bitCount(bits);
                due("quarry(" + bits + ", " + k + ")", x.quarry(bits, k), is ? want.get(0).get(k) : NONE);
            }
        }
        compareRopes();
    }

    private void compareRopes() {
        int heavy = NONE;
        for (int i = 0; i < m.stones.size(); i++) {
            boolean more = heavy == NONE || m.stones.get(i).weight > m.stones.get(heavy).weight;
            heavy = m.stones.get(i).place >= 0 && more ? i : heavy;
        }
        int load = heavy == NONE ? 0 : m.stones.get(heavy).weight * m.drop(m.stones.get(heavy).place);
        int all = 0;
        for (int w : m.ropes) {
            all += w;
        }
        int bits = 0;
        int pairs = 0;
        for (int i = 0; i < m.ropes.size(); i++) {
            bits |= one(all - m.ropes.get(i) < load) << i;
            for (int j = i + 1; j < m.ropes.size(); j++) {
                pairs += one(all - m.ropes.get(i) - m.ropes.get(j) < load);
            }
        }
        int[] want = {heavy, load, all, bits, pairs, one(all >= load)};
        for (int k = 0; k < want.length; k++) {
            due("ropes(" + k + ")", x.ropes(k), heavy == NONE ? NONE : want[k]);
        }
    }

    private void compareLaws() {
        for (int i = 0; i < 6; i++) {
            int[] f = {random.nextInt(1000), random.nextInt(100), random.nextInt(i < 3 ? 50 : 10000), random.nextInt(2), random.nextInt(9)};
            due("law", x.law(f[0], f[1], f[2], f[3], f[4]), m.law(f));
        }
    }

    private void run(int most, int acts) {
        if (!begin(most)) {
            return;
        }
        for (int i = 0; i < acts; i++) {
            compareState();
            compareImage();
            compareRolls();
            compareOdds();
            compareLaws();
            compareStillness();
            if (i % 3 == 0) {
                compareMen();
                compareNets();
                compareDowries();
            }
            act();
            act();
        }
        compareState();
    }

    /** Slopes on which nothing has rolled yet: there most can still happen. */
    private void look(int most) {
        if (begin(most)) {
            compareOdds();
            compareMen();
            compareNets();
            compareDowries();
            compareStillness();
        }
    }

    public static void main(String[] args) {
        int runs = args.length > 0 ? Integer.parseInt(args[0]) : 300;
        List<Integer> sizes = new ArrayList<>(List.of(8, 12, 20, 30, 42, 60));
        for (int run = 0; run < runs; run++) {
            new ModelTest(run).run(sizes.get(run % sizes.size()), 10);
        }
        for (int run = runs; run < 8 * runs; run++) {
            new ModelTest(run).look(sizes.get(run % 5));
        }
        Check.finish("ModelTest");
    }
}
