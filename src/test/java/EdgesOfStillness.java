/** Term III, the second half, sentence by sentence: whence, quarries, ropes, draws, images. */
final class EdgesOfStillness {
    private static final int NONE = BoulderDowry.NONE;

    private EdgesOfStillness() {
    }

    static void all() {
        whence();
        alteringNothing();
        leaning();
        quarries();
        ropes();
        draws();
        goingOn();
        images();
        lastByte();
    }

    private static void says(String words) {
        Says.says("III", words);
    }

    private static void due(String what, long got, long want) {
        Check.due(what, got, want);
    }

    private static BoulderDowry stair(String more) {
        return Texts.stair(more);
    }

    /** The cells from which a stone has come must be these. */
    private static void from(String what, BoulderDowry x, int stone, int... places) {
        due(what + ": how many", x.whence(stone, NONE), places.length);
        for (int i = 0; i < places.length; i++) {
            due(what + ": cell " + i, x.whence(stone, i), places[i]);
        }
        due(what + ": no more", x.whence(stone, places.length), NONE);
    }

    private static void whence() {
        says("WHENCE a STONE has come: cells but its own, without STONE, whole HOUSE, WALL, NET,");
        String s = "stone s weight 3 rest 9999 at 0 4;";
        from("all but its own", stair(s), 0, 0, 1, 2, 3, 4, 5, 6, 7, 9);
        from("not 5, where a STONE is", stair(s + "stone t weight 1 rest 9999 at 1 2;"), 0, 0, 1, 2, 3, 4, 6, 7, 9);
        from("not 5, where a whole HOUSE is", stair(s + "house h worth 1 at 1 2;"), 0, 0, 1, 2, 3, 4, 6, 7, 9);
        from("not 5, where a WALL is", stair(s + "wall 1 at 1 2;"), 0, 0, 1, 2, 3, 4, 6, 7, 9);
        BoulderDowry x = stair(s);
        x.net(5, true);
        from("not 5, where a NET is", x, 0, 0, 1, 2, 3, 4, 6, 7, 9);
        x = stair(s + "stone t weight 1 rest 0 at 1 1;house h worth 1 at 0 1;");
        x.lever(1, 1);
        x.take(1);
        from("from a ruin too", x, 0, 0, 1, 2, 3, 4, 5, 6, 7, 9);
        x.net(8, true);
        from("whatever is in its own cell", x, 0, 0, 1, 2, 3, 4, 5, 6, 7, 9);
        says("from which, did it lie there and ROLL (whatever its rest), it would come to lie where it lies,");
        x = stair("stone s weight 3 rest 9999 at 0 2;");
        from("it would not stay in 4", x, 0);
        x.net(4, true);
        from("a NET would hold it, and not what is below", x, 0, 0, 1, 2, 3, 5);
        from("roughness would hold it", stair("stone s weight 3 rest 9999 at 0 2;rough 20 at 0 2;"), 0, 0, 2);
        from("not if it comes faster", stair("stone s weight 3 rest 9999 at 0 2;rough 10 at 0 2;"), 0, 2);
        from("nor a cell without a NEXT", Check.of("field 3 2;row 5 5 5;row 5 5 4;stone s weight 1 rest 0 at 2 1;"), 0, 2, 4);
    }

    private static void alteringNothing() {
        says("nothing else being altered.");
        String s = "stone s weight 3 rest 9999 at 0 4;";
        from("a WALL in 2 would be gone", stair(s + "wall 1 at 0 1;"), 0, 4, 5, 6, 7, 9);
        from("a HOUSE in 2 would come to be a ruin", stair(s + "house h worth 1 at 0 1;"), 0, 4, 5, 6, 7, 9);
        from("a WALL in 8 would hold less", stair("stone s weight 3 rest 9999 at 0 3;wall 9999 at 0 4;"), 0);
        from("a WALL in 8 would be gone at 0", stair("stone s weight 3 rest 9999 at 0 3;wall 60 at 0 4;"), 0);
        from("a HOUSE in 6 would come to be a ruin", stair("stone s weight 3 rest 9999 at 0 2;house h worth 1 at 0 3;"), 0);
        from("a STONE in 8 is not started", stair("stone s weight 3 rest 9999 at 0 3;stone t weight 1 rest 0 at 0 4;"), 0, 0, 1, 2, 3, 4, 5, 7);
        String above = "stone s weight 3 rest 9999 at 0 2;stone t weight 3 rest ";
        from("a STONE in 6 would be started", stair(above + "0 at 0 3;"), 0);
        from("a STONE in 6 is not started by a PUSH of 30", stair(above + "40 at 0 3;"), 0, 0, 2);
        from("a STONE in 6 is not started by any PUSH", stair(above + "9999 at 0 3;"), 0, 0, 1, 2, 3, 5);
        from("one in 6 would ROLL, though it would stay", stair(above + "0 at 0 3;stone u weight 3 rest 9999 at 0 4;"), 0);
        BoulderDowry x = stair(s + "wall 1 at 0 1;");
        x.whence(0, NONE);
        due("nothing is done", x.cell(2, 4) + x.stone(0, 2) + x.stone(0, 4) + x.has(11), 9);
    }

    private static void leaning() {
        says("HELD is a STONE in whose NEXT there is a STONE:");
        BoulderDowry x = stair("stone s weight 1 rest 0 at 0 0;stone t weight 1 rest 0 at 0 1;stone u weight 1 rest 0 at 0 3;stone v weight 1 rest 0 at 1 3;");
        int[] held = {1, 0, 0, 1};
        for (int i = 0; i < 4; i++) {
            due("HELD: stone " + i, x.stone(i, 7), held[i]);
        }
        x.take(2);
        due("no STONE there any more", x.stone(3, 7), 0);
        says("it LEANS on that one, and on all on which that leans.");
        x = stair("stone s weight 1 rest 0 at 0 2;stone t weight 1 rest 0 at 0 1;stone u weight 1 rest 0 at 0 0;stone v weight 1 rest 0 at 0 4;"
                + "stone w weight 1 rest 0 at 1 1;");
        int[][] want = {{0, 0, 0, 0, 0}, {1, 0, 0, 0, 0}, {1, 1, 0, 0, 0}, {0, 0, 0, 0, 0}, {1, 1, 0, 0, 0}};
        for (int i = 0; i < 5; i++) {
            for (int j = 0; j < 5; j++) {
                due("leans(" + i + ", " + j + ")", x.leans(i, j), want[i][j]);
            }
        }
        StringBuilder ten = new StringBuilder("field 2 10;");
        for (int i = 0; i < 10; i++) {
            ten.append("row " + (99 - 9 * i) + " 999;");
        }
        for (int i = 0; i < 10; i++) {
            ten.append("stone s" + (char) ('a' + i) + " weight 1 rest 9 at 0 " + i + ";");
        }
        x = Check.of(ten.toString());
        due("ten in a row", x.leans(0, 9), 1);
        due("not upward", x.leans(9, 0), 0);
    }

    private static void quarries() {
        says("A QUARRY of STONES (bits, 1 to 6 of them, not TAKEN):");
        StringBuilder flat = new StringBuilder("field 4 2;");
        for (int i = 0; i < 7; i++) {
            flat.append("stone s" + (char) ('a' + i) + " weight 1 rest 0 at " + i % 4 + " " + i / 4 + ";");
        }
        BoulderDowry x = Check.of(flat.toString());
        int[] orders = {NONE, 1, 2, 6, 24, 120, 720, NONE};
        for (int n = 0; n <= 7; n++) {
            due(n + " of them", x.quarry((1 << n) - 1, NONE), orders[n]);
        }
        due("the last six", x.quarry(126, NONE), 720);
        due("one that there is not", x.quarry(128, NONE), NONE);
        due("one that there is not, and one", x.quarry(129, NONE), NONE);
        due("all bits", x.quarry(-1, NONE), NONE);
        due("the highest bit", x.quarry(1 << 31 | 1, NONE), NONE);
        x.take(0);
        due("one is TAKEN", x.quarry(3, NONE), NONE);
        due("none is TAKEN", x.quarry(6, NONE), 2);
        says("orders in which they are TAKEN, so that behind each of them no STONE that is left and not HELD STARTS by a PUSH of 0.");
        String three = "stone s weight 1 rest 5 at 0 0;stone t weight 1 rest 5 at 0 1;stone u weight 1 rest 50 at 0 2;";
        x = stair(three);
        due("from above alone", x.quarry(7, NONE), 1);
        due("the upper two: from above", x.quarry(3, NONE), 1);
        due("the lowest: then one that is left would start", x.quarry(4, NONE), 0);
        due("the middle: then the upper one would start", x.quarry(2, NONE), 0);
        due("the first: the others are HELD, or do not start", x.quarry(1, NONE), 1);
        x = stair(three.replace("rest 5 at 0 1", "rest 10 at 0 1"));
        due("10 is not above 10: the lowest at any time behind the first", x.quarry(7, NONE), 3);
        x = stair("stone s weight 1 rest 5 at 0 0;stone t weight 1 rest 5 at 0 4;");
        due("what would start ahead of the first is of no matter", x.quarry(1, NONE), 1);
        due("what would start behind the first is", x.quarry(2, NONE), 0);
        due("so with both", x.quarry(3, NONE), 1);
        due("first the one that would start", x.quarry(3, 0), 0);
    }

    private static void ropes() {
        says("ROPES hold the heaviest STONE that is not TAKEN (of like ones the first):");
        BoulderDowry x = stair("stone s weight 5 rest 0 at 0 1;stone t weight 9 rest 0 at 0 0;stone u weight 9 rest 0 at 1 4;rope 90;");
        due("the first of like ones", x.ropes(0), 1);
        due("told first", stair("stone s weight 9 rest 0 at 0 1;stone t weight 8 rest 0 at 0 0;stone u weight 1 rest 0 at 1 4;").ropes(0), 0);
        x.take(1);
        due("not a TAKEN one", x.ropes(0), 2);
        x.take(2);
        due("the lightest", x.ropes(0), 0);
        x.take(0);
        due("none", x.ropes(0), NONE);
        says("its LOAD is its weight times the DROP of its cell.");
        x = stair("stone s weight 5 rest 0 at 0 1;stone t weight 9 rest 0 at 1 4;stone u weight 99 rest 0 at 0 4;");
        due("no DROP", x.ropes(1), 0);
        x.take(2);
        due("9 times 80", x.ropes(1), 720);
        x.take(1);
        due("5 times 10", x.ropes(1), 50);
        x = Check.of("field 2 2;row 999 999;row 0 0;stone s weight 999 rest 0 at 0 0;");
        due("999 times 999", x.ropes(1), 998001);
        says("They HOLD, if they are no less than the LOAD together.");
        String s = "stone s weight 9 rest 0 at 0 0;rope 40;rope 4";
        due("89", stair(s + "9;").ropes(5), 0);
        due("90", stair(s + "9;rope 1;").ropes(5), 1);
        due("no ROPE, no LOAD", stair("stone s weight 9 rest 0 at 0 4;").ropes(5), 1);
        due("no ROPE, a LOAD", stair("stone s weight 9 rest 0 at 0 0;").ropes(5), 0);
    }

    private static void draws() {
        says("A DRAW of m: x (the seed) becomes (1103515245 x + 12345) mod 2 to the 31; floor(x / 64) mod m.");
        BoulderDowry x = stair("thaw 0 odds 1;");
        int[] seeds = {1103527590, 377401575, 662824084, 1147902781, 2035015474, 368800899, 1508029952};
        for (int seed : seeds) {
            due("its own DRAW", x.goOn(1), 0);
            due("x becomes", x.has(13), seed);
        }
        x.seed(0);
        x.goOn(1);
        due("behind 0", x.has(13), 12345);
        x.seed(Integer.MAX_VALUE);
        x.goOn(1);
        due("behind the highest seed", x.has(13), 1043980748);
        // Of 6 thaws of like odds the one that is drawn is told by how many of six stones start.
        StringBuilder text = new StringBuilder("field 6 2;row 9 9 9 9 9 9;row 1 1 1 1 1 1;");
        for (int i = 0; i < 6; i++) {
            text.append("thaw " + i + " odds 1;stone s" + (char) ('a' + i) + " weight 1 rest " + (7 + i) + " at " + i + " 0;");
        }
        x = Check.of(text.toString());
        int[] drawn = {4, 3, 2, 0, 2, 0, 2, 0, 3, 3, 0, 3};
        for (int i = 0; i < drawn.length; i++) {
            due("floor(x / 64) mod 6, draw " + i, x.goOn(1) - 1, drawn[i]);
            x.undo();
        }
        x.seed(Integer.MAX_VALUE);
        due("floor(1043980748 / 64) mod 6", x.goOn(1) - 1, 5);
    }

    private static void goingOn() {
        says("IT GOES ON: a DRAW of the odds of all THAWS: the first THAW whose odds, with those of all ahead of it, are above that: a SPRING of its strength.");
        // By draws of 6: 4 3 2 0 2 0 2 0 3 3 0 3. Odds 2, 1, 3: 0 and 1 are the first THAW's, 2 the second's, 3 to 5 the third's.
        BoulderDowry x = Check.of("field 3 2;row 9 9 9;row 1 1 1;stone s weight 1 rest 8 at 0 0;stone t weight 1 rest 10 at 1 0;"
                + "stone u weight 1 rest 12 at 2 0;thaw 1 odds 2;thaw 3 odds 1;thaw 5 odds 3;");
        int[] rolls = {3, 3, 2, 1, 2, 1, 2, 1, 3, 3, 1, 3};
        for (int i = 0; i < rolls.length; i++) {
            due("draw " + i, x.goOn(1), rolls[i]);
            x.undo();
        }
        x = Check.of("field 2 2;row 9 9;row 1 1;stone s weight 1 rest 8 at 0 0;thaw 0 odds 99;thaw 1 odds 1;");
        x.seed(0);
        due("192 mod 100 is 92, below 99", x.goOn(1), 0);
        x.seed(76);
        due("98 is below 99", x.goOn(1), 0);
        x.seed(119);
        due("99 is not", x.goOn(1), 1);
        x.undo();
        x.seed(42);
        due("0", x.goOn(1), 0);
    }

    private static final String SMALL = "field 2 2;row 9 8;row 7 6;stone s weight 1 rest 0 at 1 1;stone t weight 1 rest 0 at 0 0;"
            + "house h worth 1 at 1 0;wall 515 at 0 1;rough 9 at 1 1;";

    private static void bytes(String what, BoulderDowry x, int from, int... want) {
        x.image();
        for (int i = 0; i < want.length; i++) {
            due(what + ": byte " + (from + i), x.octet(from + i), want[i]);
        }
    }

    private static void images() {
        says("AN IMAGE: for each STONE its place and 1 (0 TAKEN);");
        BoulderDowry x = Check.of(SMALL);
        bytes("3 and 1, 0 and 1", x, 0, 4, 1);
        x.take(1);
        bytes("0 of a TAKEN one", x, 0, 4, 0);
        bytes("59 and 1", Check.of("field 6 10;stone s weight 1 rest 0 at 5 9;"), 0, 60);
        says("for each HOUSE 1 if it is a ruin, else 0;");
        x = stair("stone s weight 2 rest 0 at 0 2;house h worth 7 at 0 0;house i worth 7 at 0 3;");
        bytes("both whole", x, 1, 0, 0);
        x.lever(0, 1);
        bytes("one is a ruin", x, 1, 0, 1);
        says("for each cell what its WALL holds (two bytes, the higher first; 0 without), its roughness, 1 if there is a NET, else 0;");
        x = Check.of("field 2 2;wall 255 at 0 0;wall 256 at 1 0;wall 9999 at 0 1;rough 99 at 1 0;rough 1 at 1 1;");
        x.net(0, true);
        x.net(3, true);
        bytes("cell by cell", x, 0, 0, 255, 0, 1, 1, 0, 99, 0, 39, 15, 0, 0, 0, 0, 1, 1);
    }

    private static void lastByte() {
        says("last a byte: all ahead from 83 on, c = (3 c + it) mod 253.");
        bytes("of nothing", new BoulderDowry(), 0, 83, NONE);
        // 83, then 249 and so on for sixteen bytes of 0: 83 times 3 to the 16, mod 253.
        int c = 83;
        for (int i = 0; i < 16; i++) {
            c = 3 * c % 253;
        }
        bytes("of sixteen bytes of 0", Check.of("field 2 2;"), 16, c, NONE);
        BoulderDowry x = Check.of("field 2 2;stone s weight 1 rest 0 at 1 1;");
        x.image();
        c = (3 * 83 + 4) % 253;
        for (int i = 0; i < 16; i++) {
            c = 3 * c % 253;
        }
        due("249 and 4 are 253, which is 0", x.octet(17), 0);
        due("as reckoned", x.octet(17), c);
        x = Check.of(SMALL);
        int n = x.image();
        c = 83;
        for (int i = 0; i < n - 1; i++) {
            c = (3 * c + x.octet(i)) % 253;
        }
        due("of all ahead", x.octet(n - 1), c);
    }
}
