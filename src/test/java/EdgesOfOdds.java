/** Term III, the first half, sentence by sentence: odds, the worst, crews, nets, dowries. */
final class EdgesOfOdds {
    private static final int NONE = BoulderDowry.NONE;

    private EdgesOfOdds() {
    }

    static void all() {
        odds();
        worst();
        crews();
        fewestMen();
        nets();
        firstNets();
        dowries();
        waiting();
    }

    private static void says(String words) {
        Says.says("III", words);
    }

    private static void due(String what, long got, long want) {
        Check.due(what, got, want);
    }

    private static BoulderDowry stair(String more) {
        return Texts.stair(more);
    }

    private static void odds() {
        says("By one SPRING of each THAW, as all is now: a STONE's ODDS of a place, a HOUSE's of being hit:");
        BoulderDowry x = stair("stone s weight 1 rest 30 at 0 0;house h worth 3 at 0 2;thaw 20 odds 1;thaw 21 odds 3;");
        due("it stays", x.lies(0, 0), 250);
        due("it starts", x.lies(0, 4), 750);
        due("it hits", x.hit(0), 750);
        due("no second SPRING", x.lies(0, 8), 0);
        x.net(2, true);
        due("with the NET that is there now", x.lies(0, 2), 750);
        due("which saves the HOUSE", x.hit(0), 0);
        due("nothing is done", x.stone(0, 2) + x.house(0, 2) + x.stone(0, 4), 0);
        says("floor(1000 times the odds of those THAWS by which it lies there, the HOUSE comes to be a ruin / the odds of all).");
        String s = "stone s weight 1 rest 30 at 0 0;house h worth 3 at 0 2;thaw 20 odds ";
        x = stair(s + "2;thaw 21 odds 1;");
        due("floor(1000 / 3)", x.hit(0), 333);
        due("floor(2000 / 3)", x.lies(0, 0), 666);
        x = stair(s + "99;" + "thaw 0 odds 99;".repeat(4) + "thaw 21 odds 99;");
        due("99 of 594", x.hit(0), 166);
        due("495 of 594", x.lies(0, 0), 833);
        x = stair(s + "99;thaw 21 odds 1;thaw 20 odds 1;");
        due("1 of 101", x.hit(0), 9);
        due("100 of 101", x.lies(0, 0), 990);
        x = stair(s + "7;");
        due("all", x.lies(0, 0), 1000);
        due("none", x.hit(0), 0);
        x = stair("stone s weight 1 rest 0 at 0 0;house h worth 3 at 0 2;thaw 0 odds 1;");
        due("all of 1", x.lies(0, 4), 1000);
        due("all of 1", x.hit(0), 1000);
    }

    private static void worst() {
        says("THE WORST: the THAW by which HOUSES of most worth come to be ruins, the first of like ones.");
        String houses = "stone s weight 1 rest 30 at 0 0;stone t weight 1 rest 200 at 1 4;house h worth 3 at 0 2;house i worth 2 at 0 4;";
        BoulderDowry x = stair(houses + "thaw 20 odds 9;thaw 21 odds 1;thaw 121 odds 1;thaw 122 odds 1;");
        due("both", x.worst(0), 2);
        due("3 and 2", x.worst(1), 5);
        x = stair(houses + "thaw 20 odds 9;thaw 21 odds 1;thaw 0 odds 1;");
        due("one", x.worst(0), 1);
        due("3", x.worst(1), 3);
        x = stair(houses + "thaw 20 odds 9;thaw 10 odds 1;");
        due("none: the first", x.worst(0), 0);
        due("of no worth", x.worst(1), 0);
        x = stair("stone s weight 1 rest 30 at 0 0;stone t weight 1 rest 0 at 1 4;house h worth 3 at 0 2;house i worth 4 at 0 4;"
                + "thaw 0 odds 1;thaw 21 odds 1;");
        due("most worth", x.worst(0), 1);
        x.take(0);
        due("like ones", x.worst(0), 0);
        due("4 by each", x.worst(1), 4);
        x = stair("stone s weight 1 rest 30 at 0 0;stone t weight 1 rest 40 at 0 1;stone u weight 1 rest 90 at 1 3;stone v weight 1 rest 90 at 1 4;"
                + "house h worth 9 at 0 2;house i worth 2 at 0 3;house j worth 2 at 0 4;thaw 20 odds 1;thaw 31 odds 1;thaw 31 odds 9;");
        due("worth together", x.worst(1), 13);
        due("not by odds", x.worst(0), 1);
    }

    private static void crews() {
        says("A CREW brings STONES (bits, 1 to 3 of them, not TAKEN) to an OWNER:");
        BoulderDowry x = Check.of("field 2 2;owner o;owner p;land o at 0 0 to 1 1;stone s weight 1 rest 0 at 0 0;"
                + "stone t weight 1 rest 0 at 1 0;stone u weight 1 rest 0 at 0 1;stone v weight 1 rest 0 at 1 1;");
        for (int bits = -2; bits <= 34; bits++) {
            boolean can = bits >= 1 && bits <= 14;
            due("bits " + bits, x.crew(bits, 0, NONE), can ? 0 : NONE);
        }
        due("not to another one", x.crew(1, 1, NONE), NONE);
        due("a bit far above", x.crew(1 << 30 | 1, 0, NONE), NONE);
        due("the highest bit", x.crew(1 << 31 | 1, 0, NONE), NONE);
        x.take(1);
        due("one of them is TAKEN", x.crew(3, 0, NONE), NONE);
        due("none of them is TAKEN", x.crew(5, 0, NONE), 0);
        says("in an order of them each is LEVERED once by 1 .. 9 men, or by none (0: not at all), so that behind that all lie on its land:");
        x = stair("stone s weight 3 rest 99 at 0 0;");
        due("9 men: 90 and 10 are above 99", x.crew(1, 1, NONE), 9);
        due("none: it lies there", x.crew(1, 0, 0), 0);
        x = stair("stone s weight 3 rest 100 at 1 0;");
        due("7 men: 70 and 40 are above 100, 60 and 40 are not", x.crew(1, 1, NONE), 7);
        x = stair("stone s weight 3 rest 100 at 0 0;");
        due("9 men: 90 and 10 are not above 100", x.crew(1, 1, NONE), NONE);
        x = stair("stone s weight 3 rest 0 at 0 0;rough 10 at 0 1;");
        due("once, and that is not enough", x.crew(1, 1, NONE), NONE);
        x = stair("stone s weight 3 rest 95 at 0 0;stone t weight 3 rest 9 at 1 4;");
        due("one of them first, the other one behind it", x.crew(3, 1, NONE), 10);
        due("t first, for it can't come to where s would lie", x.crew(3, 1, 10), 1);
        due("then s", x.crew(3, 1, 11), 0);
        x = stair("stone s weight 9 rest 999 at 0 1;stone t weight 9 rest 0 at 1 0;");
        due("all behind that: it lies in the way of the other one", x.crew(2, 1, NONE), NONE);
    }

    /** The stair, on which 2, 6 and 8 are b's, 0 and 4 are a's. */
    private static final String STRIPES = "field 2 5;row 50 90;row 40 90;row 30 90;row 20 90;row 10 90;owner a;owner b;"
            + "land a at 0 0 to 0 4;land b at 0 1 to 0 1;land b at 0 3 to 0 4;";
    /** The stair, on which only 4 is not b's. */
    private static final String ONE_STRIPE = "field 2 5;row 50 90;row 40 90;row 30 90;row 20 90;row 10 90;owner a;owner b;"
            + "land b at 0 0 to 0 4;land a at 0 2 to 0 2;";

    private static void crew(String what, BoulderDowry x, int bits, int owner, int... menAndOrder) {
        int n = menAndOrder.length / 2;
        int together = 0;
        for (int i = 0; i < n; i++) {
            together += menAndOrder[i];
            due(what + ": men " + i, x.crew(bits, owner, i), menAndOrder[i]);
            due(what + ": order " + i, x.crew(bits, owner, 10 + i), menAndOrder[n + i]);
        }
        due(what + ": together", x.crew(bits, owner, NONE), together);
    }

    private static void fewestMen() {
        says("the fewest men together,");
        BoulderDowry x = Check.of(STRIPES + "stone s weight 9 rest 0 at 0 0;stone t weight 1 rest 60 at 0 2;");
        crew("one man moves both, for s pushes t", x, 3, 1, 1, 0, 0, 1);
        crew("t alone takes six", x, 2, 1, 6, 1);
        x = Check.of("field 2 2;row 45 43;row 27 29;owner a;land a at 1 0 to 1 0;land a at 0 1 to 0 1;"
                + "stone s weight 132 rest 0 at 1 1;stone t weight 1 rest 84 at 1 0;");
        crew("one man for s, not eight for t that pushes it", x, 3, 0, 1, 0, 0, 1);
        says("of like ones the fewest of the first STONE (by numbers), then of the second;");
        String upper = " weight 1 rest 20 at 0 0;";
        String lower = " weight 1 rest 20 at 0 2;";
        x = Check.of(ONE_STRIPE + "stone s" + upper + "stone t" + lower);
        crew("two men for the lower one, or for the upper one that pushes it", x, 3, 1, 0, 2, 0, 1);
        x = Check.of(ONE_STRIPE + "stone t" + lower + "stone s" + upper);
        crew("the same, the lower one told first", x, 3, 1, 0, 2, 0, 1);
        x = Check.of(ONE_STRIPE + "stone r weight 1 rest 0 at 0 4;stone s" + upper + "stone t" + lower);
        crew("the same behind one that lies there", x, 7, 1, 0, 0, 2, 0, 1, 2);
        x = Check.of(ONE_STRIPE + "stone r weight 1 rest 0 at 0 4;stone t" + lower + "stone s" + upper);
        crew("the same, the lower one told ahead of the upper one", x, 7, 1, 0, 0, 2, 0, 1, 2);
        x = Check.of("field 2 3;row 51 53;row 46 37;row 45 16;owner a;owner b;land b at 0 0 to 1 2;land a at 1 0 to 1 0;"
                + "stone s weight 5 rest 12 at 1 1;stone t weight 67 rest 17 at 1 0;stone u weight 7 rest 17 at 0 1;");
        crew("one man for s or for u, which pushes it away; t behind that", x, 7, 1, 0, 1, 1, 0, 2, 1);
        x = Check.of("field 2 3;row 122 108;row 85 71;row 37 41;owner a;owner b;land a at 0 0 to 1 2;land b at 1 0 to 1 0;land b at 0 1 to 0 1;"
                + "stone s weight 91 rest 87 at 1 0;stone t weight 9 rest 19 at 0 1;stone u weight 113 rest 7 at 0 0;");
        crew("one man for t or for u, which pushes it away; s behind that", x, 7, 0, 6, 0, 1, 1, 2, 0);
        x = Check.of("field 2 4;row 86 87;row 66 67;row 49 49;row 31 23;owner a;owner b;land b at 0 0 to 1 3;land a at 0 0 to 1 0;land a at 0 2 to 0 2;"
                + "stone s weight 152 rest 8 at 0 0;stone t weight 1 rest 0 at 0 2;stone u weight 1 rest 11 at 0 3;");
        crew("one man for t or for u, the latter in a later order", x, 7, 1, 1, 0, 1, 1, 2, 0);
        says("of these the first order (by numbers).");
        x = Check.of("field 3 3;row 9 9 9;row 5 5 5;row 1 1 1;owner o;land o at 0 1 to 2 2;"
                + "stone a weight 1 rest 0 at 0 0;stone b weight 1 rest 0 at 1 0;stone c weight 1 rest 0 at 2 0;");
        crew("any order would do", x, 7, 0, 1, 1, 1, 0, 1, 2);
        crew("any order would do for two", x, 6, 0, 1, 1, 1, 2);
        x = stair("stone s weight 3 rest 0 at 0 0;stone t weight 3 rest 60 at 0 1;stone u weight 1 rest 0 at 0 4;");
        crew("t must go ahead of s, u at any time", x, 7, 1, 1, 6, 0, 1, 0, 2);
    }

    private static void nets() {
        says("NETS: the fewest cells (3 at most), each without STONE, whole HOUSE, WALL, NET,");
        String s = "stone s weight 3 rest 12 at 0 0;house i worth 9 at 0 4;thaw 3 odds 5;";
        BoulderDowry x = stair(s);
        due("one", x.nets(NONE), 1);
        due("not where the STONE is", x.nets(0), 2);
        x.wall(2, 1);
        due("not where a WALL is, though it breaks", x.nets(0), 4);
        due("one all the same", x.nets(NONE), 1);
        x.net(6, true);
        due("none needed: a NET is there", x.nets(NONE), 0);
        due("not where the HOUSE is", stair("stone s weight 3 rest 12 at 0 3;house i worth 9 at 0 4;thaw 3 odds 5;").nets(NONE), NONE);
        x = stair("stone s weight 3 rest 12 at 0 0;house h worth 1 at 0 1;house i worth 9 at 0 4;thaw 3 odds 5;");
        due("a whole HOUSE bars", x.nets(NONE), NONE);
        x = stair("stone s weight 3 rest 12 at 0 0;stone t weight 3 rest 99 at 1 0;house h worth 1 at 0 1;house i worth 9 at 0 4;thaw 60 odds 5;");
        x.lever(0, 1);
        x.take(0);
        due("a ruin does not", x.nets(0), 0);
        x.wall(0, 1);
        due("in the ruin", x.nets(0), 2);
        x = Check.of("field 2 4;row 118 124;row 88 99;row 71 64;row 43 45;stone a weight 10 rest 0 at 1 1;stone b weight 27 rest 18 at 1 0;"
                + "house h worth 57 at 0 3;thaw 27 odds 1;");
        due("two", x.nets(NONE), 2);
        due("3 and 5 would do, but in 3 there is a STONE", x.nets(0), 5);
        due("and 7", x.nets(1), 7);
        StringBuilder text = new StringBuilder("field 4 4;row 9 9 9 9;row 7 7 7 7;row 5 5 5 5;row 3 3 3 3;thaw 0 odds 1;");
        for (int i = 0; i < 4; i++) {
            due("as many as are needed", Check.of(text.toString()).nets(NONE), i);
            text.append("stone s" + (char) ('a' + i) + " weight 1 rest 0 at " + i + " 0;house h" + (char) ('a' + i) + " worth 1 at " + i + " 3;");
        }
        due("four are too many", Check.of(text.toString()).nets(NONE), NONE);
        due("and not told", Check.of(text.toString()).nets(0), NONE);
    }

    private static void firstNets() {
        says("with NETS in which, too, no THAW would ruin a HOUSE;");
        String s = "stone s weight 3 rest 12 at 0 0;house i worth 9 at 0 4;";
        due("none would", stair(s + "thaw 2 odds 1;").nets(NONE), 0);
        due("the last one would", stair(s + "thaw 2 odds 99;thaw 0 odds 99;thaw 3 odds 1;").nets(NONE), 1);
        due("no THAW", stair(s).nets(NONE), 0);
        String two = "field 3 4;row 9 9 9;row 7 7 7;row 5 5 5;row 3 3 3;stone s weight 1 rest 9 at 0 0;stone t weight 1 rest 19 at 2 0;"
                + "house h worth 1 at 0 3;house i worth 1 at 2 3;thaw 8 odds 1;thaw 18 odds 1;";
        BoulderDowry x = Check.of(two);
        due("each THAW", x.nets(NONE), 2);
        x.net(6, true);
        due("with the NET that is there", x.nets(NONE), 1);
        due("5", x.nets(0), 5);
        says("of like ones the first row of places.");
        x = Check.of(two);
        due("3, not 6", x.nets(0), 3);
        due("5, not 8", x.nets(1), 5);
        due("no third", x.nets(2), NONE);
        x.wall(3, 1);
        due("3 is not free: 5 is ahead of 6", x.nets(0), 5);
        due("then 6", x.nets(1), 6);
        x = Check.of("field 2 3;row 5 9;row 3 9;row 1 9;stone s weight 1 rest 0 at 1 0;house h worth 1 at 0 2;thaw 0 odds 1;");
        due("place 0 ahead of 2", x.nets(0), 0);
    }

    private static void dowries() {
        says("A DOWRY: a STONE promised by an OWNER within n SPRINGS: S is the odds of all THAWS.");
        String s = "stone s weight 10 rest 12 at 0 0;rough 99 at 0 2;";
        BoulderDowry x = stair(s + "thaw 3 odds 1;thaw 2 odds 2;");
        due("within 0", x.dowry(0, 1, 0, 0), 0);
        due("within 1: 10 times 1 / 3", x.dowry(0, 1, 1, 0), 3333);
        due("within 2: 10 times 5 / 9", x.dowry(0, 1, 2, 0), 5555);
        due("within 3: 10 times 19 / 27", x.dowry(0, 1, 3, 0), 7037);
        x = stair("stone s weight 999 rest 12 at 0 0;rough 99 at 0 2;" + "thaw 3 odds 99;".repeat(6));
        for (int n = 1; n <= 3; n++) {
            due("S 594: all of it", x.dowry(0, 1, n, 0), 999000);
        }
        says("WORTH of it with 0 SPRINGS left: its weight, if it lies on that land, else 0.");
        due("its weight", x.dowry(0, 0, 0, 0), 999000);
        due("0", x.dowry(0, 1, 0, 0), 0);
        says("With k left: the greater of its weight times S to the k, if it lies on that land, else 0 (handed over now),");
        x = stair(s + "thaw 3 odds 1;thaw 2 odds 2;");
        for (int n = 1; n <= 3; n++) {
            due("handed over now", x.dowry(0, 0, n, 0), 10000);
        }
        x = Check.of(STRIPES + "stone s weight 10 rest 0 at 0 0;thaw 0 odds 7;rough 10 at 0 1;rough 10 at 0 2;");
        due("b's behind one SPRING", x.dowry(0, 1, 1, 0), 10000);
        due("handed over behind that, for behind the second it is a's", x.dowry(0, 1, 2, 0), 10000);
        x.lever(0, 1);
        due("now", x.dowry(0, 1, 1, 1), 1);
        due("not later", x.dowry(0, 1, 1, 0), 10000);
        due("a's behind one", x.dowry(0, 0, 1, 0), 10000);
    }

    private static void waiting() {
        says("and, THAW by THAW, odds times WORTH with k - 1 left behind a SPRING of that, together (waited).");
        BoulderDowry x = Check.of(STRIPES + "stone s weight 10 rest 30 at 0 0;thaw 21 odds 1;thaw 0 odds 3;rough 10 at 0 1;rough 10 at 0 2;");
        due("1 of 4", x.dowry(0, 1, 1, 0), 2500);
        due("7 of 16", x.dowry(0, 1, 2, 0), 4375);
        due("37 of 64", x.dowry(0, 1, 3, 0), 5781);
        due("no THAW gives more than its own land", x.dowry(0, 0, 3, 0), 10000);
        x = Check.of("field 2 5;row 50 90;row 40 90;row 30 90;row 20 90;row 10 90;owner a;land a at 0 3 to 0 3;rough 99 at 0 1;rough 99 at 0 2;"
                + "rough 99 at 0 3;stone s weight 8 rest 30 at 0 0;thaw 21 odds 1;thaw 0 odds 1;");
        due("not by two SPRINGS", x.dowry(0, 0, 2, 0), 0);
        due("by three: 1 of 8", x.dowry(0, 0, 3, 0), 1000);
        x = Check.of("field 2 5;row 50 90;row 40 90;row 30 90;row 20 90;row 10 90;owner a;land a at 0 1 to 0 1;rough 99 at 0 1;"
                + "stone s weight 7 rest 30 at 0 0;stone t weight 9 rest 0 at 0 1;thaw 21 odds 1;thaw 0 odds 1;");
        due("first t must go, and s follow: by two", x.dowry(0, 0, 2, 0), 3500);
    }
}
