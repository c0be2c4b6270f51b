import java.util.ArrayList;
import java.util.List;
import java.util.Random;

/** Texts by chance (always the same chance), most of them faulty somewhere: each is held against TextModel. */
public final class TextModelTest {
    private static final int NONE = BoulderDowry.NONE;
    private static final int TAPE = 1600;
    private static final int[] EDGES = {0, 1, 2, 9, 10, 11, 60, 98, 99, 100, 101, 998, 999, 1000, 1001, 9998, 9999};
    private static final String[] OWN = ("field row rough at owner land to stone weight rest house worth wall thaw odds rope due when or and "
            + "not all speed steps min max").split(" ");
    private static final String SIGNS = "abmtz;;;  [](),+-*/%<=>0159\n\t!AZ";

    private final Random random;
    private final StringBuilder text = new StringBuilder();
    /** Of how many choices one is an odd one. */
    private final int oddness;
    private int wide = 3;
    private int high = 3;
    private final List<String> names = new ArrayList<>();
    private final List<String> owners = new ArrayList<>();
    private final List<Integer> full = new ArrayList<>();

    private TextModelTest(int run) {
        random = new Random(run);
        oddness = new int[] {25, 100, 400, 3000}[run % 4];
    }

    private boolean odd() {
        return random.nextInt(oddness) == 0;
    }

    // ---- texts

    private void blank() {
        for (int i = random.nextInt(8) - 6; i > 0; i--) {
            text.append(random.nextBoolean() ? ' ' : '\n');
        }
    }

    private static boolean wordy(char sign) {
        return sign >= 'a' && sign <= 'z' || sign >= '0' && sign <= '9';
    }

    /** A word, number or sign, behind a blank where one is needed (but for odd ones). */
    private void put(String what) {
        blank();
        boolean needs = text.length() > 0 && wordy(text.charAt(text.length() - 1)) && wordy(what.charAt(0));
        if (needs && !odd()) {
            text.append(' ');
        }
        if (odd()) {
            what = random.nextBoolean() ? OWN[random.nextInt(OWN.length)] : "" + SIGNS.charAt(random.nextInt(SIGNS.length()));
        }
        if (!odd()) {
            text.append(what);
        }
        if (odd()) {
            text.append(what);
        }
    }

    private void word(String word) {
        put(odd() ? word + "x" : odd() ? word.substring(0, word.length() - 1) + "q" : word);
    }

    private void number(int least, int most) {
        int n = least + random.nextInt(most - least + 1);
        if (random.nextInt(6) == 0) {
            n = random.nextBoolean() ? least : most;
        }
        if (odd()) {
            n = random.nextInt(3) == 0 ? EDGES[random.nextInt(EDGES.length)] : random.nextBoolean() ? Math.max(0, least - 1) : most + 1;
        }
        String digits = "" + n;
        while (digits.length() < 4 && random.nextInt(9) == 0) {
            digits = "0" + digits;
        }
        put(odd() ? "0000" + digits : digits);
    }

    /** A name that no other thing has yet (but for odd ones). */
    private String newName() {
        if (odd()) {
            name(new String[] {"abcdefg", "stones", "weights", "max", "to"}[random.nextInt(5)]);
            return "";
        }
        if (!names.isEmpty() && random.nextInt(60) == 0) {
            return name(names.get(random.nextInt(names.size())));
        }
        StringBuilder name = new StringBuilder();
        for (int i = random.nextInt(6); i >= 0; i--) {
            name.append((char) ('a' + random.nextInt(26)));
        }
        names.add(name.toString());
        return name(name.toString());
    }

    private String name(String name) {
        put(name);
        return name;
    }

    private void owner() {
        word("owner");
        owners.add(newName());
    }

    private void ownersName() {
        boolean none = owners.isEmpty() || random.nextInt(60) == 0;
        String name = none ? "q" : owners.get(random.nextInt(owners.size()));
        put(name.isEmpty() ? "qq" : name);
    }

    private void cell() {
        number(0, wide - 1);
        number(0, high - 1);
    }

    private void atCell() {
        word("at");
        cell();
    }

    /** A cell that nothing is in yet, as far as one is found. */
    private void atFreeCell() {
        word("at");
        int across = random.nextInt(wide);
        int down = random.nextInt(high);
        for (int i = 0; i < 40 && full.contains(down * wide + across); i++) {
            across = random.nextInt(wide);
            down = random.nextInt(high);
        }
        full.add(down * wide + across);
        number(odd() ? 0 : across, across);
        number(odd() ? 0 : down, down);
    }

    private void field() {
        do {
            wide = 2 + random.nextInt(9);
            high = 2 + random.nextInt(9);
        } while (wide * high > 60 && !odd());
        word("field");
        number(wide, wide);
        number(high, high);
    }

    private void statement(int kind) {
        switch (kind) {
            case 0 -> {
                word("row");
                for (int i = 0; i < wide; i++) {
                    number(0, 999);
                }
            }
            case 1 -> {
                word("rough");
                number(1, 99);
                atCell();
            }
            case 2 -> owner();
            case 3, 4 -> {
                if (owners.isEmpty() && !odd()) {
                    owner();
                    put(";");
                }
                word("land");
                ownersName();
                atCell();
                word("to");
                number(wide - 1 - random.nextInt(2) * random.nextInt(wide), wide - 1);
                number(high - 1 - random.nextInt(2) * random.nextInt(high), high - 1);
            }
            case 5 -> {
                word("stone");
                newName();
                word("weight");
                number(1, 999);
                word("rest");
                number(0, 9999);
                atFreeCell();
            }
            case 6 -> {
                word("house");
                newName();
                word("worth");
                number(1, 999);
                atFreeCell();
            }
            case 7 -> {
                word("wall");
                number(1, 9999);
                atFreeCell();
            }
            case 8 -> {
                word("thaw");
                number(0, 9999);
                word("odds");
                number(1, 99);
            }
            case 9 -> {
                word("rope");
                number(1, 9999);
            }
            case 10 -> {
                word("due");
                sum(random.nextInt(9));
                word("when");
                test(random.nextInt(9));
            }
            default -> field();
        }
        put(";");
    }

    // ---- laws

    private void sum(int depth) {
        product(depth);
        while (random.nextInt(5) == 0) {
            put(random.nextBoolean() ? "+" : "-");
            product(depth - random.nextInt(3));
        }
    }

    private void product(int depth) {
        part(depth);
        while (random.nextInt(5) == 0) {
            put("" + "*/%".charAt(random.nextInt(3)));
            part(depth - random.nextInt(3));
        }
    }

    private void part(int depth) {
        int kind = random.nextInt(depth > 0 || odd() ? 5 : 2);
        if (kind == 0) {
            number(0, random.nextBoolean() ? 9999 : 9);
        } else if (kind == 1) {
            word(new String[] {"weight", "speed", "worth", "wall", "steps"}[random.nextInt(5)]);
        } else if (kind == 2) {
            word(random.nextBoolean() ? "min" : "max");
            put("(");
            sum(depth - 1);
            put(",");
            sum(depth - 1 - random.nextInt(3));
            put(")");
        } else {
            put("(");
            sum(depth - 1);
            put(")");
        }
    }

    private void test(int depth) {
        both(depth);
        while (random.nextInt(5) == 0) {
            word("or");
            both(depth - random.nextInt(3));
        }
    }

    private void both(int depth) {
        fact(depth);
        while (random.nextInt(5) == 0) {
            word("and");
            fact(depth - random.nextInt(3));
        }
    }

    private void fact(int depth) {
        while (random.nextInt(5) == 0) {
            word("not");
        }
        int kind = random.nextInt(depth > 0 || odd() ? 5 : 2);
        if (kind == 0) {
            word("all");
        } else if (kind == 1) {
            sum(Math.min(depth, 2));
            put("" + "<>=".charAt(random.nextInt(3)));
            sum(Math.min(depth, 2));
        } else {
            put("[");
            test(depth - 1);
            put("]");
        }
    }

    /** Some nine brackets deep, with a rest that may be left out. */
    private void deep() {
        word("due");
        int deep = 6 + random.nextInt(5);
        int shut = Math.max(0, deep - random.nextInt(3));
        boolean sums = random.nextBoolean();
        if (!sums) {
            text.append(" 1 when");
        }
        for (int i = 0; i < deep; i++) {
            put(!sums && i < deep / 2 ? "[" : random.nextInt(4) == 0 ? "min(3," : "(");
        }
        put("7");
        for (int i = shut; i > 0; i--) {
            put(!sums && i == deep / 2 ? ")=7]" : !sums && i < deep / 2 ? "]" : ")");
        }
        if (sums) {
            word("when");
            word("all");
        }
        put(";");
    }

    private String make() {
        if (!odd()) {
            field();
            put(";");
        }
        // Most texts have few statements, some a hundred, and some more of one kind than there may be.
        boolean many = random.nextInt(6) == 0;
        int favourite = random.nextInt(6) == 0 ? random.nextInt(11) : NONE;
        int count = many ? 96 + random.nextInt(7) : random.nextInt(favourite == NONE ? 14 : 20);
        for (int i = 0; i < count; i++) {
            if (many && random.nextInt(400) > 0) {
                text.append("rough 1 at 0 0;");
            } else if (random.nextInt(30) == 0) {
                deep();
            } else {
                boolean other = favourite == NONE || random.nextInt(30) == 0;
                statement(!other ? favourite : random.nextInt(odd() ? 12 : 11));
            }
        }
        for (int i = random.nextInt(8) - 5; i > 0; i--) {
            spoil();
        }
        if (random.nextInt(6) == 0) {
            text.setLength(random.nextInt(text.length() + 1));
        }
        return text.substring(0, Math.min(TAPE, text.length()));
    }

    private void spoil() {
        int at = random.nextInt(text.length() + 1);
        char sign = SIGNS.charAt(random.nextInt(SIGNS.length()));
        if (at == text.length() || random.nextBoolean()) {
            text.insert(at, sign);
        } else if (random.nextBoolean()) {
            text.setCharAt(at, sign);
        } else {
            text.deleteCharAt(at);
        }
    }

    // ---- held against the model

    private static void hold(int run, int[] faults, Random random) {
        String text = new TextModelTest(run).make();
        TextModel model = new TextModel(text);
        int kind = 0;
        int place = NONE;
        try {
            model.read();
        } catch (TextModel.Fault fault) {
            kind = fault.kind;
            place = fault.place;
        }
        BoulderDowry x = new BoulderDowry();
        String what = "run " + run + ": " + text;
        Check.due("slope(), " + what, Check.tell(x, text), kind == 0 ? model.statements : NONE);
        Check.due("fault(0), " + what, x.fault(0), kind);
        Check.due("fault(1), " + what, x.fault(1), place);
        faults[kind]++;
        if (kind == 0) {
            compare(x, model, random);
        } else {
            Check.due("has(7), " + what, x.has(7), 0);
        }
    }

    private static void compare(BoulderDowry x, TextModel model, Random random) {
        int[] has = {model.owners.size(), model.stones.size(), model.houses.size(), model.walls, model.thaws, model.ropes,
            model.laws.size(), model.wide, model.high};
        for (int k = 0; k < has.length; k++) {
            Check.due("has(" + k + ")", x.has(k), has[k]);
        }
        for (int i = 0; i <= model.wide * model.high; i++) {
            boolean is = i < model.wide * model.high;
            Check.due("height of " + i, x.cell(i, 0), is ? model.height[i] : NONE);
            Check.due("roughness of " + i, x.cell(i, 1), is ? model.rough[i] : NONE);
            Check.due("owner of " + i, x.cell(i, 2), is ? model.land[i] : NONE);
            Check.due("wall of " + i, x.cell(i, 4), is ? model.holds[i] : NONE);
        }
        for (int i = 0; i < 5; i++) {
            int[] f = {random.nextInt(i < 3 ? 9 : 10000), random.nextInt(20), random.nextInt(i < 2 ? 9 : 10000), random.nextInt(2), random.nextInt(9)};
            Check.due("law", x.law(f[0], f[1], f[2], f[3], f[4]), model.law(f));
        }
    }

    public static void main(String[] args) {
        int runs = args.length > 0 ? Integer.parseInt(args[0]) : 40000;
        int[] faults = new int[6];
        Random random = new Random(5);
        for (int run = 0; run < runs; run++) {
            hold(run, faults, random);
        }
        for (int kind = 0; kind < faults.length; kind++) {
            Check.due("texts of fault " + kind + " (" + faults[kind] + ") are many", faults[kind] > runs / 400, true);
            if (args.length > 0) {
                System.out.println("texts of fault " + kind + ": " + faults[kind]);
            }
        }
        Check.finish("TextModelTest");
    }
}
