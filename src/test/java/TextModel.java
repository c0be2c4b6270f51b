import java.util.ArrayList;
import java.util.List;

/**
 * Term I told a second time: reads a text byte by byte as the document says it, without tokens read ahead, and reckons
 * laws where they stand in the text. What TextModelTest holds the class against.
 */
final class TextModel {
    /** Thrown at the first fault along the text. */
    static final class Fault extends RuntimeException {
        private static final long serialVersionUID = 1L;
        final int kind;
        final int place;

        Fault(int kind, int place) {
            this.kind = kind;
            this.place = place;
        }
    }

    private static final List<String> OWN = List.of(("field row rough at owner land to stone weight rest house worth wall thaw odds "
            + "rope due when or and not all speed steps min max").split(" "));
    private static final List<String> FACTS = List.of("weight", "speed", "worth", "wall", "steps");

    private final String text;
    private int at;
    private int open;
    private int[] facts = new int[5];

    int wide;
    int high;
    int statements;
    int rows;
    int[] height;
    int[] rough;
    int[] land;
    int[] holds;
    final List<String> owners = new ArrayList<>();
    final List<String> stones = new ArrayList<>();
    final List<String> houses = new ArrayList<>();
    final List<Integer> full = new ArrayList<>();
    int walls;
    int thaws;
    int ropes;
    /** Where the sum of each law begins. */
    final List<Integer> laws = new ArrayList<>();

    TextModel(String text) {
        this.text = text;
    }

    private static boolean letter(char sign) {
        return sign >= 'a' && sign <= 'z';
    }

    private static boolean digit(char sign) {
        return sign >= '0' && sign <= '9';
    }

    private void skip() {
        while (at < text.length() && (text.charAt(at) == ' ' || text.charAt(at) == '\n')) {
            at++;
        }
    }

    /** What comes: a word, a number, a sign; empty at the end. One that can't be a word or number is a fault. */
    private String comes() {
        skip();
        if (at == text.length()) {
            return "";
        }
        char sign = text.charAt(at);
        if (!letter(sign) && !digit(sign)) {
            return text.substring(at, at + 1);
        }
        if (at > 0 && (letter(text.charAt(at - 1)) || digit(text.charAt(at - 1)))) {
            throw new Fault(1, at);
        }
        int end = at;
        while (end < text.length() && (letter(sign) ? letter(text.charAt(end)) : digit(text.charAt(end)))) {
            if (end - at == (letter(sign) ? 6 : 4)) {
                throw new Fault(1, end);
            }
            end++;
        }
        return text.substring(at, end);
    }

    private boolean eat(String what) {
        if (!comes().equals(what)) {
            return false;
        }
        at += what.length();
        return true;
    }

    private void must(String what) {
        if (!eat(what)) {
            throw new Fault(1, at);
        }
    }

    private int number(int least, int most) {
        String digits = comes();
        if (digits.isEmpty() || !digit(digits.charAt(0))) {
            throw new Fault(1, at);
        }
        int number = Integer.parseInt(digits);
        if (number < least || number > most) {
            throw new Fault(4, at);
        }
        at += digits.length();
        return number;
    }

    private String name() {
        String name = comes();
        if (name.isEmpty() || !letter(name.charAt(0)) || OWN.contains(name)) {
            throw new Fault(1, at);
        }
        return name;
    }

    private String newName() {
        String name = name();
        if (owners.contains(name) || stones.contains(name) || houses.contains(name)) {
            throw new Fault(2, at);
        }
        at += name.length();
        return name;
    }

    private int cell(int left, int top, boolean free) {
        int across = number(left, wide - 1);
        comes();
        int second = at;
        int place = number(top, high - 1) * wide + across;
        if (free && full.contains(place)) {
            throw new Fault(4, second);
        }
        return place;
    }

    private void oneMore(boolean may) {
        if (!may) {
            throw new Fault(5, at);
        }
    }

    /** Reads it all, or throws the first fault. */
    void read() {
        for (skip(); at < text.length() || statements == 0; skip()) {
            if (statements == 100) {
                throw new Fault(5, at);
            }
            statement(comes());
            must(";");
            statements++;
        }
    }

    private void statement(String word) {
        if (word.equals("field") != (statements == 0)) {
            throw new Fault(1, at);
        }
        int first = at;
        switch (word) {
            case "field" -> {
                must(word);
                wide = number(2, 10);
                high = number(2, Math.min(10, 60 / wide));
                height = new int[wide * high];
                rough = new int[wide * high];
                holds = new int[wide * high];
                land = new int[wide * high];
                java.util.Arrays.fill(land, -1);
            }
            case "row" -> {
                oneMore(rows < high);
                must(word);
                for (int i = 0; i < wide; i++) {
                    height[rows * wide + i] = number(0, 999);
                }
                rows++;
            }
            case "rough" -> {
                must(word);
                int much = number(1, 99);
                must("at");
                rough[cell(0, 0, false)] = much;
            }
            case "owner" -> {
                oneMore(owners.size() < 6);
                must(word);
                owners.add(newName());
            }
            case "land" -> land();
            case "stone" -> {
                oneMore(stones.size() < 10);
                must(word);
                String name = newName();
                must("weight");
                number(1, 999);
                must("rest");
                number(0, 9999);
                must("at");
                full.add(cell(0, 0, true));
                stones.add(name);
            }
            case "house" -> {
                oneMore(houses.size() < 8);
                must(word);
                String name = newName();
                must("worth");
                number(1, 999);
                must("at");
                full.add(cell(0, 0, true));
                houses.add(name);
            }
            case "wall" -> {
                oneMore(walls < 16);
                must(word);
                int much = number(1, 9999);
                must("at");
                int place = cell(0, 0, true);
                full.add(place);
                holds[place] = much;
                walls++;
            }
            case "thaw" -> {
                oneMore(thaws < 6);
                must(word);
                number(0, 9999);
                must("odds");
                number(1, 99);
                thaws++;
            }
            case "rope" -> {
                oneMore(ropes < 9);
                must(word);
                number(1, 9999);
                ropes++;
            }
            case "due" -> {
                oneMore(laws.size() < 8);
                must(word);
                laws.add(at);
                sum();
                must("when");
                test();
            }
            default -> throw new Fault(1, first);
        }
    }

    private void land() {
        must("land");
        String name = name();
        int owner = owners.indexOf(name);
        if (owner < 0) {
            throw new Fault(3, at);
        }
        at += name.length();
        must("at");
        int from = cell(0, 0, false);
        must("to");
        int to = cell(from % wide, from / wide, false);
        for (int down = from / wide; down <= to / wide; down++) {
            for (int across = from % wide; across <= to % wide; across++) {
                land[down * wide + across] = owner;
            }
        }
    }

    // ---- laws

    int law(int[] of) {
        facts = of;
        for (int begin : laws) {
            at = begin;
            long sum = sum();
            must("when");
            if (test()) {
                return (int) Math.max(0, Math.min(9999, sum));
            }
        }
        return 0;
    }

    private static long cut(long n) {
        return Math.max(-1000000, Math.min(1000000, n));
    }

    private void openOne(String sign) {
        if (comes().equals(sign) && open == 8) {
            throw new Fault(5, at);
        }
        must(sign);
        open++;
    }

    private void closeOne(String sign) {
        must(sign);
        open--;
    }

    private boolean test() {
        boolean is = both();
        while (eat("or")) {
            is |= both();
        }
        return is;
    }

    private boolean both() {
        boolean is = fact();
        while (eat("and")) {
            is &= fact();
        }
        return is;
    }

    private boolean fact() {
        if (eat("not")) {
            return !fact();
        }
        if (eat("all")) {
            return true;
        }
        if (comes().equals("[")) {
            openOne("[");
            boolean is = test();
            closeOne("]");
            return is;
        }
        long left = sum();
        if (eat("<")) {
            return left < sum();
        }
        if (eat(">")) {
            return left > sum();
        }
        must("=");
        return left == sum();
    }

    private long sum() {
        long all = product();
        while (true) {
            if (eat("+")) {
                all = cut(all + product());
            } else if (eat("-")) {
                all = cut(all - product());
            } else {
                return all;
            }
        }
    }

    private long product() {
        long all = part();
        while (true) {
            if (eat("*")) {
                all = cut(all * part());
            } else if (eat("/")) {
                long by = part();
                all = by == 0 ? 0 : below(all, by);
            } else if (eat("%")) {
                long by = part();
                all = by == 0 ? 0 : all - by * below(all, by);
            } else {
                return all;
            }
        }
    }

    /** The greatest whole number not above a quotient. */
    private static long below(long whole, long by) {
        long near = whole / by;
        return near * by != whole && whole < 0 != by < 0 ? near - 1 : near;
    }

    private long part() {
        String word = comes();
        if (FACTS.contains(word)) {
            must(word);
            return facts[FACTS.indexOf(word)];
        }
        if (word.equals("min") || word.equals("max")) {
            must(word);
            openOne("(");
            long first = sum();
            must(",");
            long second = sum();
            closeOne(")");
            return word.equals("min") ? Math.min(first, second) : Math.max(first, second);
        }
        if (word.equals("(")) {
            openOne("(");
            long inside = sum();
            closeOne(")");
            return inside;
        }
        return number(0, 9999);
    }
}
