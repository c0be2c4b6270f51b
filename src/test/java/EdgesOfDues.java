/** Term II, the dues, sentence by sentence. */
final class EdgesOfDues {
    private static final int NONE = BoulderDowry.NONE;
    /** The stair, on which place 0 is a's, 2 is b's, all below c's, and the right side nobody's. */
    private static final String THREE = "field 2 5;row 50 90;row 40 90;row 30 90;row 20 90;row 10 90;owner a;owner b;owner c;"
            + "land a at 0 0 to 0 0;land b at 0 1 to 0 1;land c at 0 2 to 0 4;";

    private EdgesOfDues() {
    }

    static void all() {
        whatFor();
        payers();
        both();
        sums();
        facts();
        told();
        toldAtOnce();
    }

    private static void says(String words) {
        Says.says("II", words);
    }

    private static void due(String what, long got, long want) {
        Check.due(what, got, want);
    }

    private static BoulderDowry three(String more) {
        return Check.of(THREE + more);
    }

    private static void row(String what, BoulderDowry x, int k, int payer, int receiver, int sum, int stone) {
        int[] want = {payer, receiver, sum, stone};
        for (int i = 0; i < 4; i++) {
            due(what + ": " + i, x.due(k, i), want[i]);
        }
    }

    private static void whatFor() {
        says("A DUE: for a WALL gone by a STONE's FORCE above what it holds, a HOUSE that comes to be a ruin:");
        String s = "due 7 when all;stone s weight 1 rest 0 at 0 0;";
        BoulderDowry x = three(s + "wall 21 at 0 2;");
        x.lever(0, 1);
        due("a WALL that holds", x.has(12), 0);
        x = three(s + "wall 20 at 0 2;");
        x.lever(0, 1);
        due("a WALL that is gone at 0", x.has(3) + x.has(12), 0);
        x = three(s + "wall 19 at 0 2;");
        x.lever(0, 1);
        due("a WALL gone by FORCE above", x.has(12), 1);
        x = three(s + "house h worth 1 at 0 2;");
        x.lever(0, 1);
        due("a ruin", x.has(12), 1);
        x.lever(0, 1);
        due("no more", x.has(12), 1);
        x = three(s + "wall 19 at 0 2;house h worth 1 at 0 3;stone t weight 1 rest 9999 at 0 4;");
        x.lever(0, 1);
        due("one of each", x.has(12), 2);
        x.lever(0, 1);
        due("none for a STONE", x.has(12), 2);
    }

    private static void payers() {
        says("PAYER is whose land the STONE lay on when this ROLL of it began, RECEIVER whose land WALL or HOUSE is on.");
        String laws = "due 7 when all;stone s weight 9 rest 0 at 0 0;";
        BoulderDowry x = three(laws + "house h worth 1 at 0 3;");
        x.lever(0, 1);
        row("from a's through b's to c's", x, 0, 0, 2, 7, 0);
        x = three(laws + "house h worth 1 at 0 3;");
        x.net(2, true);
        x.lever(0, 1);
        x.lever(0, 1);
        row("a second ROLL, from b's", x, 0, 1, 2, 7, 0);
        x = three(laws + "house h worth 1 at 0 3;stone t weight 9 rest 0 at 0 1;");
        x.lever(0, 1);
        row("the one that is pushed, from b's", x, 0, 1, 2, 7, 1);
        x = three(laws + "wall 1 at 0 1;wall 1 at 0 2;");
        x.lever(0, 1);
        row("b's WALL", x, 0, 0, 1, 7, 0);
        row("c's WALL", x, 1, 0, 2, 7, 0);
        due("a pays both", x.owner(0, 4), -14);
        due("b receives one", x.owner(1, 4), 7);
        due("c receives one", x.owner(2, 4), 7);
    }

    private static void both() {
        says("If there are both, and they are two:");
        String law = "due 7 when all;house h worth 1 at 0 2;";
        BoulderDowry x = three(law + "stone s weight 9 rest 0 at 0 1;");
        x.lever(0, 1);
        due("two", x.has(12), 1);
        x = three(law + "stone s weight 9 rest 0 at 1 2;");
        x.lever(0, 1);
        due("no PAYER", x.house(0, 2) - x.has(12), 1);
        due("none receives", x.owner(2, 4), 0);
        x = Check.of("field 2 3;row 9 9;row 5 9;row 1 9;owner a;land a at 0 0 to 0 0;due 7 when all;"
                + "house h worth 1 at 0 1;stone s weight 1 rest 0 at 0 0;");
        x.lever(0, 1);
        due("no RECEIVER", x.house(0, 2) - x.has(12), 1);
        due("none pays", x.owner(0, 4), 0);
        x = three("due 7 when all;house h worth 1 at 0 4;stone s weight 9 rest 0 at 0 2;");
        x.lever(0, 1);
        due("one is both", x.house(0, 2) - x.has(12), 1);
        due("nothing is due to oneself", x.owner(2, 4), 0);
        x = Check.of("field 2 2;row 5 5;row 1 1;due 7 when all;house h worth 1 at 0 1;stone s weight 1 rest 0 at 0 0;");
        x.lever(0, 1);
        due("neither", x.house(0, 2) - x.has(12), 1);
    }

    /** What is due by these laws for a house of that worth at place 4, told or not. */
    private static int dueBy(String laws, int worth) {
        BoulderDowry x = three(laws + "stone s weight 9 rest 0 at 0 1;house h worth " + worth + " at 0 2;");
        x.lever(0, 1);
        due("what one pays, another one receives", x.owner(2, 4), -x.owner(1, 4));
        due("told if above 0", x.has(12), x.owner(2, 4) > 0 ? 1 : 0);
        return x.owner(2, 4);
    }

    private static void sums() {
        says("the SUM of the first LAW whose TEST holds, 0 .. 9999 (below is 0, above 9999; 0 without):");
        String laws = "due 3 when worth>5;due 4 when worth>2;due 5 when worth>3;";
        due("the first", dueBy(laws, 6), 3);
        due("the second", dueBy(laws, 5), 4);
        due("the second ahead of the third", dueBy(laws, 4), 4);
        due("none holds", dueBy(laws, 2), 0);
        due("without a LAW", dueBy("", 9), 0);
        due("9999", dueBy("due 9999 when all;", 1), 9999);
        due("above 9999", dueBy("due 9999+1 when all;", 1), 9999);
        due("far above 9999", dueBy("due 9999*9999 when all;", 1), 9999);
        due("0", dueBy("due 0 when all;due 8 when all;", 1), 0);
        due("below 0, and no LAW behind it counts", dueBy("due 0-1 when all;due 8 when all;", 1), 0);
        due("far below 0", dueBy("due 0-9999*9999 when all;", 1), 0);
    }

    private static int dueOf(String sum, String more) {
        BoulderDowry x = three("due " + sum + " when all;" + more);
        x.lever(0, 9);
        return x.due(0, 2);
    }

    private static void facts() {
        String s = "stone s weight 13 rest 0 at 0 0;";
        says("weight of the STONE; speed: its SPEED as FORCE is reckoned there;");
        due("weight", dueOf("weight", s + "house h worth 1 at 0 2;"), 13);
        due("weight 999", dueOf("weight", "stone s weight 999 rest 0 at 0 0;wall 1 at 0 2;"), 999);
        due("speed", dueOf("speed", s + "house h worth 1 at 0 2;"), 20);
        due("speed behind what is rough", dueOf("speed", s + "rough 3 at 0 1;house h worth 1 at 0 2;"), 17);
        due("not of the cell itself", dueOf("speed", s + "rough 3 at 0 2;wall 5 at 0 2;"), 20);
        due("ahead of what a WALL takes", dueOf("speed", s + "wall 259 at 0 2;"), 20);
        due("not the PUSH", dueOf("speed", s + "wall 7 at 0 1;"), 10);
        says("worth of the HOUSE, or what the WALL held;");
        due("999", dueOf("worth", s + "house h worth 999 at 0 2;"), 999);
        due("1", dueOf("worth", s + "house h worth 1 at 0 2;"), 1);
        due("held 259", dueOf("worth", s + "wall 259 at 0 2;"), 259);
        BoulderDowry x = three("due worth when all;stone s weight 1 rest 0 at 0 0;wall 31 at 0 2;");
        x.lever(0, 1);
        due("31 less 20 is left", x.cell(4, 4), 11);
        x.lever(0, 1);
        due("1 is left", x.cell(4, 4), 1);
        x.lever(0, 1);
        due("what it held then", x.due(0, 2), 1);
        says("wall 1 of a WALL, else 0;");
        due("a WALL", dueOf("wall+5", s + "wall 5 at 0 2;"), 6);
        due("a HOUSE", dueOf("wall+5", s + "house h worth 5 at 0 2;"), 5);
        says("steps: cells into which it has come in this ROLL ahead of it.");
        due("none ahead of it", dueOf("steps+5", s + "wall 5 at 0 1;"), 5);
        due("one", dueOf("steps+5", s + "wall 5 at 0 2;"), 6);
        due("three", dueOf("steps+5", s + "house h worth 5 at 0 4;"), 8);
        x = three("due steps+5 when all;" + s + "wall 5 at 0 1;wall 5 at 0 3;house h worth 5 at 0 4;stone t weight 1 rest 0 at 1 4;");
        x.lever(0, 1);
        due("each of three: none ahead of it", x.due(0, 2), 5);
        due("each of three: two", x.due(1, 2), 7);
        due("each of three: three", x.due(2, 2), 8);
        x = three("due steps+5 when all;" + s + "house h worth 5 at 0 4;");
        x.net(2, true);
        x.lever(0, 1);
        x.lever(0, 1);
        due("in this ROLL alone", x.due(0, 2), 7);
        x = three("due steps+5 when all;stone s weight 13 rest 0 at 1 0;stone t weight 1 rest 0 at 0 1;house h worth 5 at 0 4;");
        due("one cell", x.lever(0, 1), 1);
        due("two of the one that is pushed", x.due(0, 2), 7);
    }

    /** A way of 32 cells in windings: four stones go down it one by one, through 28 walls each that are built anew. */
    private static void told() {
        says("A DUE above 0 is told (the first 99 of all).");
        due("0 is not", dueBy("due 0 when all;", 1), 0);
        due("1 is", dueBy("due 1 when all;", 1), 1);
        int[] way = new int[32];
        int[] height = new int[60];
        java.util.Arrays.fill(height, 999);
        for (int i = 0; i < 32; i++) {
            way[i] = i < 10 ? i : i == 10 ? 19 : i < 21 ? 29 - (i - 11) : i == 21 ? 30 : 40 + i - 22;
            height[way[i]] = 990 - 25 * i;
        }
        StringBuilder text = new StringBuilder("field 10 6;owner a;owner b;land b at 0 0 to 9 5;land a at 0 0 to 3 0;due 7 when all;");
        for (int i = 0; i < 60; i++) {
            text.append(i % 10 == 0 ? "row " : " ").append(height[i]).append(i % 10 == 9 ? ";" : "");
        }
        for (int i = 0; i < 4; i++) {
            text.append("stone s" + (char) ('a' + i) + " weight 999 rest 0 at " + i + " 0;");
        }
        BoulderDowry x = Check.of(text.toString());
        for (int stone = 3; stone >= 0; stone--) {
            for (int i = 4; i < 32; i++) {
                x.wall(way[i], 1);
            }
            due("down all the way", x.lever(stone, 1), 31 - stone);
            due("99 at most", x.has(12), Math.min(99, 28 * (4 - stone)));
            due("received: all of them", x.owner(1, 4), 7 * 28 * (4 - stone));
            due("paid: all of them", x.owner(0, 4), -7 * 28 * (4 - stone));
            if (stone > 0) {
                x.take(stone);
            }
        }
        row("the first one", x, 0, 0, 1, 7, 3);
        row("the 99th one", x, 98, 0, 1, 7, 0);
        row("none behind it", x, 99, NONE, NONE, NONE, NONE);
        x.undo();
        due("undone", x.has(12), 84);
        due("of all", x.owner(1, 4), 7 * 84);
    }

    /** Six stones, eight walls and a house below each. */
    private static void toldAtOnce() {
        says("A DUE above 0 is told (the first 99 of all).");
        StringBuilder text = new StringBuilder("field 6 10;owner a;owner b;land a at 0 0 to 5 0;land b at 0 1 to 5 9;due 7 when all;");
        for (int i = 0; i < 10; i++) {
            text.append("row" + (" " + (900 - 90 * i)).repeat(6) + ";");
        }
        for (int i = 0; i < 6; i++) {
            text.append("stone s" + (char) ('a' + i) + " weight 999 rest 0 at " + i + " 0;");
            text.append("house h" + (char) ('a' + i) + " worth 1 at " + i + " 9;");
        }
        BoulderDowry x = Check.of(text.toString());
        for (int i = 6; i < 54; i++) {
            due("built", x.wall(i, i) ? 1 : 0, 1);
        }
        due("all ROLL", x.spring(0), 6);
        due("48 WALLS, 6 HOUSES", x.has(12), 54);
        due("all are paid", x.owner(0, 4), -7 * 54);
        row("the last one", x, 53, 0, 1, 7, 5);
    }
}
