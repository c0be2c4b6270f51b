import java.util.ArrayList;
import java.util.Arrays;
import java.util.List;
import java.util.Random;

/** The document told a second time, as plainly as can be and without any thrift: what ModelTest holds the class against. */
final class Model {
    static final class Stone {
        String name;
        int weight;
        int rest;
        int place;
        int rolls;
        int comes;
    }

    static final class House {
        String name;
        int worth;
        int place;
        boolean ruin;
    }

    static final class Due {
        int payer;
        int receiver;
        int sum;
        int stone;
    }

    /** A sum or a test: its text, and what it is worth for weight, speed, worth, wall, steps. */
    interface Term {
        String text();

        long of(int[] facts);
    }

    static final class Law {
        Term sum;
        Term test;
    }

    int wide;
    int high;
    int[] height;
    int[] rough;
    int[] land;
    int[] holds;
    boolean[] net;
    List<String> owners = new ArrayList<>();
    List<Stone> stones = new ArrayList<>();
    List<House> houses = new ArrayList<>();
    List<int[]> thaws = new ArrayList<>();
    List<Integer> ropes = new ArrayList<>();
    List<Law> laws = new ArrayList<>();
    List<Due> dues = new ArrayList<>();
    int[] balance;

    // What the rolls since the last reset have done.
    List<Integer> way = new ArrayList<>();
    int rolls;
    int ruins;
    int worth;
    int wallsGone;
    int top;

    Model copy() {
        Model m = new Model();
        m.wide = wide;
        m.high = high;
        m.height = height.clone();
        m.rough = rough.clone();
        m.land = land.clone();
        m.holds = holds.clone();
        m.net = net.clone();
        m.owners = owners;
        for (Stone s : stones) {
            Stone t = new Stone();
            t.name = s.name;
            t.weight = s.weight;
            t.rest = s.rest;
            t.place = s.place;
            t.rolls = s.rolls;
            t.comes = s.comes;
            m.stones.add(t);
        }
        for (House h : houses) {
            House g = new House();
            g.name = h.name;
            g.worth = h.worth;
            g.place = h.place;
            g.ruin = h.ruin;
            m.houses.add(g);
        }
        m.thaws = thaws;
        m.ropes = ropes;
        m.laws = laws;
        m.dues.addAll(dues);
        m.balance = balance.clone();
        return m;
    }

    int cells() {
        return wide * high;
    }

    int next(int place) {
        int x = place % wide;
        int y = place / wide;
        int[][] around = {{x, y - 1}, {x + 1, y}, {x, y + 1}, {x - 1, y}};
        int best = -1;
        for (int[] c : around) {
            if (c[0] < 0 || c[0] >= wide || c[1] < 0 || c[1] >= high) {
                continue;
            }
            int other = c[1] * wide + c[0];
            if (best < 0 || height[other] < height[best]) {
                best = other;
            }
        }
        return height[best] < height[place] ? best : -1;
    }

    int drop(int place) {
        return next(place) < 0 ? 0 : height[place] - height[next(place)];
    }

    int stoneAt(int place) {
        for (int i = 0; i < stones.size(); i++) {
            if (stones.get(i).place == place) {
                return i;
            }
        }
        return -1;
    }

    int houseAt(int place) {
        for (int i = 0; i < houses.size(); i++) {
            if (houses.get(i).place == place) {
                return i;
            }
        }
        return -1;
    }

    boolean wholeHouseAt(int place) {
        int h = houseAt(place);
        return h >= 0 && !houses.get(h).ruin;
    }

    boolean bare(int place) {
        return stoneAt(place) < 0 && !wholeHouseAt(place) && holds[place] == 0;
    }

    int ownerOfStone(int stone) {
        int place = stones.get(stone).place;
        return place < 0 ? -1 : land[place];
    }

    boolean starts(int stone, long push) {
        Stone s = stones.get(stone);
        return s.place >= 0 && next(s.place) >= 0 && push + drop(s.place) > s.rest;
    }

    void reset() {
        way.clear();
        rolls = 0;
        ruins = 0;
        worth = 0;
        wallsGone = 0;
        top = 0;
    }

    /** One roll, and then those of what it pushes. */
    void roll(int stone) {
        Stone s = stones.get(stone);
        int payer = land[s.place];
        int speed = 0;
        int steps = 0;
        boolean first = rolls == 0;
        rolls++;
        s.rolls++;
        while (next(s.place) >= 0) {
            int to = next(s.place);
            speed += height[s.place] - height[to];
            top = Math.max(top, speed);
            int force = speed * s.weight;
            int other = stoneAt(to);
            if (other >= 0) {
                if (starts(other, force / stones.get(other).weight)) {
                    roll(other);
                }
                return;
            }
            boolean ruined = false;
            if (holds[to] > 0) {
                if (force <= holds[to]) {
                    holds[to] -= force;
                    return;
                }
                owe(payer, land[to], stone, new int[] {s.weight, speed, holds[to], 1, steps});
                wallsGone++;
                speed = (force - holds[to]) / s.weight;
                holds[to] = 0;
            } else if (wholeHouseAt(to)) {
                House h = houses.get(houseAt(to));
                owe(payer, land[to], stone, new int[] {s.weight, speed, h.worth, 0, steps});
                h.ruin = true;
                ruins++;
                worth += h.worth;
                ruined = true;
            }
            s.place = to;
            s.comes++;
            steps++;
            if (first) {
                way.add(to);
            }
            if (ruined || net[to]) {
                return;
            }
            speed -= rough[to];
            if (speed <= 0) {
                return;
            }
        }
    }

    void owe(int payer, int receiver, int stone, int[] facts) {
        if (payer < 0 || receiver < 0 || payer == receiver) {
            return;
        }
        Due d = new Due();
        d.payer = payer;
        d.receiver = receiver;
        d.sum = law(facts);
        d.stone = stone;
        balance[payer] -= d.sum;
        balance[receiver] += d.sum;
        if (d.sum > 0 && dues.size() < 99) {
            dues.add(d);
        }
    }

    int law(int[] facts) {
        for (Law law : laws) {
            if (law.test.of(facts) != 0) {
                return (int) Math.max(0, Math.min(9999, law.sum.of(facts)));
            }
        }
        return 0;
    }

    void push(int stone, int push) {
        if (starts(stone, push)) {
            roll(stone);
        }
    }

    void spring(int strength) {
        for (int i = 0; i < stones.size(); i++) {
            push(i, strength);
        }
    }

    Model sprung(int thaw) {
        Model m = copy();
        m.spring(thaws.get(thaw)[0]);
        return m;
    }

    Model pushed(int stone, int push) {
        Model m = copy();
        m.push(stone, push);
        return m;
    }

    int oddsOfAll() {
        int all = 0;
        for (int[] t : thaws) {
            all += t[1];
        }
        return all;
    }

    int lies(int stone, int place) {
        int odds = 0;
        for (int i = 0; i < thaws.size(); i++) {
            odds += sprung(i).stones.get(stone).place == place ? thaws.get(i)[1] : 0;
        }
        return 1000 * odds / oddsOfAll();
    }

    int hit(int house) {
        int odds = 0;
        for (int i = 0; i < thaws.size(); i++) {
            odds += sprung(i).houses.get(house).ruin ? thaws.get(i)[1] : 0;
        }
        return houses.get(house).ruin ? 0 : 1000 * odds / oddsOfAll();
    }

    int[] worst() {
        int[] worst = {-1, -1};
        for (int i = 0; i < thaws.size(); i++) {
            int w = sprung(i).worth;
            if (w > worst[1]) {
                worst = new int[] {i, w};
            }
        }
        return worst;
    }

    int men(int stone, int owner) {
        for (int men = 1; men <= 99; men++) {
            if (pushed(stone, 10 * men).ownerOfStone(stone) == owner) {
                return men;
            }
        }
        return -1;
    }

    static List<List<Integer>> orders(List<Integer> of) {
        List<List<Integer>> all = new ArrayList<>();
        if (of.isEmpty()) {
            all.add(new ArrayList<>());
        }
        for (Integer first : of) {
            List<Integer> rest = new ArrayList<>(of);
            rest.remove(first);
            for (List<Integer> behind : orders(rest)) {
                behind.add(0, first);
                all.add(behind);
            }
        }
        return all;
    }

    static List<Integer> bits(int stones) {
        List<Integer> all = new ArrayList<>();
        for (int i = 0; i < 32; i++) {
            if ((stones >> i & 1) == 1) {
                all.add(i);
            }
        }
        return all;
    }

    /** Men together, men of each, the order; null when no crew does it. Rows of men come by what is best, orders by numbers. */
    int[] crew(int bits, int owner) {
        List<Integer> these = bits(bits);
        int n = these.size();
        for (int together = 0; together <= 9 * n; together++) {
            for (int row = 0; row < Math.pow(10, n); row++) {
                int[] men = new int[n];
                int sum = 0;
                for (int i = n - 1, left = row; i >= 0; i--, left /= 10) {
                    men[i] = left % 10;
                    sum += men[i];
                }
                if (sum != together) {
                    continue;
                }
                for (List<Integer> order : orders(these)) {
                    Model m = copy();
                    for (int stone : order) {
                        if (men[these.indexOf(stone)] > 0) {
                            m.push(stone, 10 * men[these.indexOf(stone)]);
                        }
                    }
                    boolean all = true;
                    for (int stone : these) {
                        all &= m.ownerOfStone(stone) == owner;
                    }
                    if (all) {
                        int[] found = new int[1 + 2 * n];
                        found[0] = together;
                        for (int i = 0; i < n; i++) {
                            found[1 + i] = men[i];
                            found[1 + n + i] = order.get(i);
                        }
                        return found;
                    }
                }
            }
        }
        return null;
    }

    boolean safe() {
        for (int i = 0; i < thaws.size(); i++) {
            if (sprung(i).ruins > 0) {
                return false;
            }
        }
        return true;
    }

    List<Integer> nets() {
        for (int many = 0; many <= 3; many++) {
            List<Integer> found = nets(many, 0);
            if (found != null) {
                return found;
            }
        }
        return null;
    }

    private List<Integer> nets(int many, int from) {
        if (many == 0) {
            return safe() ? new ArrayList<>() : null;
        }
        for (int i = from; i < cells(); i++) {
            if (bare(i) && !net[i]) {
                net[i] = true;
                List<Integer> found = nets(many - 1, i + 1);
                net[i] = false;
                if (found != null) {
                    found.add(0, i);
                    return found;
                }
            }
        }
        return null;
    }

    long handed(int stone, int owner, int left) {
        long now = ownerOfStone(stone) == owner ? stones.get(stone).weight : 0;
        for (int i = 0; i < left; i++) {
            now *= oddsOfAll();
        }
        return now;
    }

    long waited(int stone, int owner, int left) {
        long sum = 0;
        for (int i = 0; i < thaws.size(); i++) {
            sum += thaws.get(i)[1] * sprung(i).worthWithin(stone, owner, left - 1);
        }
        return sum;
    }

    long worthWithin(int stone, int owner, int left) {
        long now = handed(stone, owner, left);
        return left == 0 ? now : Math.max(now, waited(stone, owner, left));
    }

    List<Integer> whence(int stone) {
        List<Integer> from = new ArrayList<>();
        int lies = stones.get(stone).place;
        for (int i = 0; i < cells(); i++) {
            if (i == lies || !bare(i) || net[i]) {
                continue;
            }
            Model m = copy();
            m.stones.get(stone).place = i;
            m.roll(stone);
            if (m.stones.get(stone).place == lies && likeBut(m, stone)) {
                from.add(i);
            }
        }
        return from;
    }

    /** Whether in another model all walls, houses and stones, but for one stone, are as they are here. */
    boolean likeBut(Model other, int stone) {
        boolean like = Arrays.equals(holds, other.holds);
        for (int i = 0; i < houses.size(); i++) {
            like &= houses.get(i).ruin == other.houses.get(i).ruin;
        }
        for (int i = 0; i < stones.size(); i++) {
            like &= i == stone || stones.get(i).rolls == other.stones.get(i).rolls;
        }
        return like;
    }

    boolean held(int stone) {
        int place = stones.get(stone).place;
        return place >= 0 && next(place) >= 0 && stoneAt(next(place)) >= 0;
    }

    boolean leans(int first, int second) {
        if (!held(first)) {
            return false;
        }
        int under = stoneAt(next(stones.get(first).place));
        return under == second || leans(under, second);
    }

    List<List<Integer>> quarry(int bits) {
        List<List<Integer>> good = new ArrayList<>();
        for (List<Integer> order : orders(bits(bits))) {
            Model m = copy();
            boolean still = true;
            for (int stone : order) {
                m.stones.get(stone).place = -1;
                for (int i = 0; i < stones.size(); i++) {
                    still &= m.held(i) || !m.starts(i, 0);
                }
            }
            if (still) {
                good.add(order);
            }
        }
        return good;
    }

    List<Integer> image() {
        List<Integer> all = new ArrayList<>();
        for (Stone s : stones) {
            all.add(s.place < 0 ? 0 : s.place + 1);
        }
        for (House h : houses) {
            all.add(h.ruin ? 1 : 0);
        }
        for (int i = 0; i < cells(); i++) {
            all.add(holds[i] / 256);
            all.add(holds[i] % 256);
            all.add(rough[i]);
            all.add(net[i] ? 1 : 0);
        }
        int c = 83;
        for (int octet : all) {
            c = (3 * c + octet) % 253;
        }
        all.add(c);
        return all;
    }

    // ---- slopes by chance

    static final String[] FACTS = {"weight", "speed", "worth", "wall", "steps"};

    static Term term(String text, java.util.function.ToLongFunction<int[]> of) {
        return new Term() {
            public String text() {
                return text;
            }

            public long of(int[] facts) {
                return of.applyAsLong(facts);
            }
        };
    }

    private static long cut(long n) {
        return Math.max(-1000000, Math.min(1000000, n));
    }

    static Term part(Random r, int depth) {
        int kind = r.nextInt(depth > 0 ? 5 : 2);
        if (kind == 0) {
            int n = r.nextInt(4) == 0 ? r.nextInt(10000) : r.nextInt(12);
            return term("" + n, f -> n);
        }
        if (kind == 1) {
            int k = r.nextInt(5);
            return term(FACTS[k], f -> f[k]);
        }
        Term a = sum(r, depth - 1);
        if (kind == 2) {
            return term("(" + a.text() + ")", a::of);
        }
        Term b = sum(r, depth - 1);
        if (kind == 3) {
            return term("min(" + a.text() + "," + b.text() + ")", f -> Math.min(a.of(f), b.of(f)));
        }
        return term("max (" + a.text() + " , " + b.text() + ")", f -> Math.max(a.of(f), b.of(f)));
    }

    static Term product(Random r, int depth) {
        Term all = part(r, depth);
        for (int i = r.nextInt(3); i > 0; i--) {
            Term a = all;
            Term b = part(r, depth);
            switch (r.nextInt(3)) {
                case 0:
                    all = term(a.text() + "*" + b.text(), f -> cut(a.of(f) * b.of(f)));
                    break;
                case 1:
                    all = term(a.text() + " / " + b.text(), f -> b.of(f) == 0 ? 0 : (long) Math.floor((double) a.of(f) / b.of(f)));
                    break;
                default:
                    all = term(a.text() + "%" + b.text(),
                            f -> b.of(f) == 0 ? 0 : a.of(f) - b.of(f) * (long) Math.floor((double) a.of(f) / b.of(f)));
                    break;
            }
        }
        return all;
    }

    static Term sum(Random r, int depth) {
        Term all = product(r, depth);
        for (int i = r.nextInt(3); i > 0; i--) {
            Term a = all;
            Term b = product(r, depth);
            all = r.nextBoolean() ? term(a.text() + "+" + b.text(), f -> cut(a.of(f) + b.of(f)))
                    : term(a.text() + "-" + b.text(), f -> cut(a.of(f) - b.of(f)));
        }
        return all;
    }

    static Term fact(Random r, int depth) {
        int kind = r.nextInt(depth > 0 ? 6 : 4);
        if (kind == 4) {
            Term a = fact(r, depth - 1);
            return term("not " + a.text(), f -> a.of(f) == 0 ? 1 : 0);
        }
        if (kind == 5) {
            Term a = test(r, depth - 1);
            return term("[" + a.text() + "]", a::of);
        }
        if (kind == 3) {
            return term(" all ", f -> 1);
        }
        Term a = sum(r, depth > 0 ? 1 : 0);
        Term b = sum(r, 0);
        if (kind == 0) {
            return term(a.text() + "<" + b.text(), f -> a.of(f) < b.of(f) ? 1 : 0);
        }
        if (kind == 1) {
            return term(a.text() + " > " + b.text(), f -> a.of(f) > b.of(f) ? 1 : 0);
        }
        return term(a.text() + "=" + b.text(), f -> a.of(f) == b.of(f) ? 1 : 0);
    }

    static Term both(Random r, int depth) {
        Term all = fact(r, depth);
        for (int i = r.nextInt(3); i > 1; i--) {
            Term a = all;
            Term b = fact(r, depth);
            all = term(a.text() + " and " + b.text(), f -> a.of(f) * b.of(f));
        }
        return all;
    }

    static Term test(Random r, int depth) {
        Term all = both(r, depth);
        for (int i = r.nextInt(3); i > 1; i--) {
            Term a = all;
            Term b = both(r, depth);
            all = term(a.text() + " or " + b.text(), f -> Math.max(a.of(f), b.of(f)));
        }
        return all;
    }

    /** A slope by chance, of at most that many cells. */
    static Model random(Random r, int most) {
        Model m = new Model();
        do {
            m.wide = 2 + r.nextInt(9);
            m.high = 2 + r.nextInt(9);
        } while (m.cells() > most);
        int n = m.cells();
        m.height = new int[n];
        m.rough = new int[n];
        m.land = new int[n];
        m.holds = new int[n];
        m.net = new boolean[n];
        // Every other slope is smooth and steep with little on it, so that stones go far.
        boolean smooth = r.nextBoolean();
        int steep = smooth ? 20 + r.nextInt(20) : 1 + r.nextInt(30);
        for (int i = 0; i < n; i++) {
            m.height[i] = Math.min(999, (m.high - i / m.wide) * steep + r.nextInt(2 + r.nextInt(40)));
            m.rough[i] = r.nextInt(smooth ? 15 : 3) == 0 ? 1 + r.nextInt(20) : 0;
        }
        int owners = r.nextInt(4);
        for (int i = 0; i < owners; i++) {
            m.owners.add("o" + (char) ('a' + i));
        }
        m.balance = new int[owners];
        for (int i = 0; i < n; i++) {
            m.land[i] = owners == 0 ? -1 : Math.min(owners - 1, i / m.wide * (owners + 1) / m.high + (smooth ? 0 : r.nextInt(2)))
                    - (r.nextInt(9) == 0 ? 1 : 0);
        }
        List<Integer> free = new ArrayList<>();
        for (int i = 0; i < n; i++) {
            free.add(i);
        }
        if (smooth) {
            java.util.Collections.shuffle(free.subList(0, n / 2), r);
        } else {
            java.util.Collections.shuffle(free, r);
        }
        for (int i = r.nextInt(smooth ? 6 : 11); i > 0 && !free.isEmpty(); i--) {
            Stone s = new Stone();
            s.name = "s" + (char) ('a' + m.stones.size());
            s.weight = 1 + r.nextInt(r.nextBoolean() ? 10 : 200);
            s.rest = r.nextInt(r.nextBoolean() ? 20 : 120);
            s.place = free.remove(0);
            m.stones.add(s);
        }
        java.util.Collections.shuffle(free, r);
        for (int i = r.nextInt(9); i > 0 && !free.isEmpty(); i--) {
            House h = new House();
            h.name = "h" + (char) ('a' + m.houses.size());
            h.worth = 1 + r.nextInt(99);
            h.place = free.remove(0);
            m.houses.add(h);
        }
        for (int i = r.nextInt(8); i > 0 && !free.isEmpty(); i--) {
            m.holds[free.remove(0)] = 1 + r.nextInt(r.nextBoolean() ? 100 : 3000);
        }
        for (int i = r.nextInt(5); i > 0; i--) {
            m.thaws.add(new int[] {r.nextInt(80), 1 + r.nextInt(r.nextBoolean() ? 3 : 99)});
        }
        for (int i = r.nextInt(6); i > 0; i--) {
            m.ropes.add(1 + r.nextInt(1500));
        }
        for (int i = r.nextInt(4); i > 0; i--) {
            Law law = new Law();
            law.sum = sum(r, 1);
            law.test = test(r, 1);
            m.laws.add(law);
        }
        return m;
    }

    /** The slope as a text (nets are not told). */
    String text() {
        StringBuilder t = new StringBuilder("field " + wide + " " + high + ";\n");
        for (int y = 0; y < high; y++) {
            t.append("row");
            for (int x = 0; x < wide; x++) {
                t.append(" ").append(height[y * wide + x]);
            }
            t.append(";");
        }
        for (String o : owners) {
            t.append("owner " + o + ";");
        }
        for (Stone s : stones) {
            t.append("stone " + s.name + " weight " + s.weight + " rest " + s.rest + " at " + at(s.place) + ";");
        }
        for (House h : houses) {
            t.append("house " + h.name + " worth " + h.worth + " at " + at(h.place) + ";");
        }
        for (int i = 0; i < cells(); i++) {
            if (holds[i] > 0) {
                t.append("wall " + holds[i] + " at " + at(i) + ";");
            }
        }
        for (int[] w : thaws) {
            t.append("thaw " + w[0] + " odds " + w[1] + ";");
        }
        for (int w : ropes) {
            t.append("rope " + w + ";");
        }
        for (Law law : laws) {
            t.append("due " + law.sum.text() + " when " + law.test.text() + ";");
        }
        return t.toString();
    }

    private String at(int place) {
        return place % wide + " " + place / wide;
    }
}
