/** Term II, sentence by sentence: cells, rolls, dues, acts. */
final class EdgesOfRolls {
    private static final int NONE = BoulderDowry.NONE;
    private static final int[] AROUND = {1, 5, 7, 3};

    private EdgesOfRolls() {
    }

    static void all() {
        nexts();
        drops();
        lying();
        starting();
        rolling();
        forces();
        pushing();
        walls();
        housesAndNets();
        roughness();
        EdgesOfDues.all();
        levers();
        springs();
        building();
        undoing();
    }

    private static void says(String words) {
        Says.says("II", words);
    }

    private static void due(String what, long got, long want) {
        Check.due(what, got, want);
    }

    private static void due(String what, boolean got, boolean want) {
        Check.due(what, got, want);
    }

    private static BoulderDowry stair(String more) {
        return Texts.stair(more);
    }

    /** Three times three cells, the middle one (place 4) 50 high, some others of these heights, the rest 90. */
    private static BoulderDowry middle(int... placesAndHeights) {
        int[] heights = {90, 90, 90, 90, 50, 90, 90, 90, 90};
        for (int i = 0; i < placesAndHeights.length; i += 2) {
            heights[placesAndHeights[i]] = placesAndHeights[i + 1];
        }
        return Texts.field(3, heights);
    }

    private static void nexts() {
        says("NEXT of a cell: of those above, right of, below, left of it");
        for (int place : AROUND) {
            due("beside: " + place, middle(place, 49).cell(4, 6), place);
        }
        for (int place : new int[] {0, 2, 6, 8}) {
            due("at a corner: " + place, middle(place, 0).cell(4, 6), NONE);
        }
        says("(in this order, within the field)");
        for (int i = 0; i < 9; i++) {
            for (int j = 0; j < 9; j++) {
                int[] heights = {90, 90, 90, 90, 90, 90, 90, 90, 90};
                heights[i] = 50;
                heights[j] = 1;
                boolean beside = Math.abs(i % 3 - j % 3) + Math.abs(i / 3 - j / 3) == 1;
                due("from " + i + " to " + j, Texts.field(3, heights).cell(i, 6), beside ? j : NONE);
            }
        }
        for (int[] pair : new int[][] {{2, 3}, {5, 6}, {1, 7}, {0, 8}, {0, 6}, {0, 2}}) {
            int[] heights = {90, 90, 90, 90, 90, 90, 90, 90, 90};
            heights[pair[0]] = 50;
            heights[pair[1]] = 1;
            due("no way from " + pair[0] + " to " + pair[1], Texts.field(3, heights).cell(pair[0], 6), NONE);
            heights[pair[0]] = 1;
            heights[pair[1]] = 50;
            due("no way from " + pair[1] + " to " + pair[0], Texts.field(3, heights).cell(pair[1], 6), NONE);
        }
        says("the lowest, if that is lower than it, of like ones the first.");
        due("the lowest, the last of four", middle(1, 40, 5, 39, 7, 38, 3, 37).cell(4, 6), 3);
        due("the lowest, the first of four", middle(1, 37, 5, 38, 7, 39, 3, 40).cell(4, 6), 1);
        due("the lowest, the third of four", middle(1, 37, 5, 38, 7, 36, 3, 40).cell(4, 6), 7);
        due("as high is not lower", middle(1, 50, 5, 50, 7, 50, 3, 50).cell(4, 6), NONE);
        due("by 1 lower is lower", middle(1, 50, 5, 50, 7, 49, 3, 50).cell(4, 6), 7);
        due("like ones, all four", middle(1, 40, 5, 40, 7, 40, 3, 40).cell(4, 6), 1);
        for (int i = 0; i < 4; i++) {
            for (int j = i + 1; j < 4; j++) {
                due("like ones", middle(AROUND[i], 40, AROUND[j], 40).cell(4, 6), AROUND[i]);
            }
        }
    }

    private static void drops() {
        says("DROP: how much lower (0 without a NEXT).");
        due("by 1", middle(7, 49).cell(4, 7), 1);
        due("by 50", middle(7, 0).cell(4, 7), 50);
        due("by the lowest", middle(7, 20, 3, 30).cell(4, 7), 30);
        due("without", middle(7, 50).cell(4, 7), 0);
        due("999", Texts.field(2, 999, 999, 0, 0).cell(0, 7), 999);
    }

    private static void lying() {
        says("A STONE lies in a cell, or is TAKEN.");
        BoulderDowry x = stair("stone s weight 2 rest 0 at 0 0;");
        due("it lies there", x.stone(0, 2), 0);
        due("the cell has it", x.cell(0, 3), 0);
        x.lever(0, 1);
        due("it lies elsewhere", x.stone(0, 2), 8);
        due("that cell has it", x.cell(8, 3), 0);
        due("the first has it no more", x.cell(0, 3), NONE);
        x.take(0);
        due("taken", x.stone(0, 2), NONE);
        due("no cell has it", x.cell(8, 3), NONE);
        says("A HOUSE is whole, or a ruin (that bars nothing).");
        x = stair("stone s weight 2 rest 0 at 0 2;stone t weight 2 rest 0 at 0 0;house h worth 7 at 0 3;");
        due("whole", x.house(0, 2), 0);
        due("it bars walls", x.wall(6, 1), false);
        due("it bars stones", x.lever(0, 1), 1);
        due("a ruin", x.house(0, 2), 1);
        x.take(0);
        due("a stone rolls through a ruin", x.lever(1, 1), 4);
        due("a wall is built in a ruin", x.wall(6, 1), true);
        says("A STONE's OWNER is whose land its cell is.");
        x = stair("stone s weight 2 rest 0 at 0 0;stone t weight 2 rest 0 at 1 4;");
        due("ann's", x.stone(0, 3), 0);
        due("nobody's", x.stone(1, 3), NONE);
        x.lever(0, 1);
        due("bob's", x.stone(0, 3), 1);
        x.take(0);
        due("taken", x.stone(0, 3), NONE);
    }

    private static void starting() {
        says("A STONE STARTS by a PUSH, if its cell has a NEXT, and PUSH and DROP together are above its rest.");
        BoulderDowry x = stair("stone s weight 2 rest 30 at 0 0;stone t weight 2 rest 0 at 0 4;stone u weight 2 rest 9999 at 0 2;");
        due("20 and 10 are not above 30", x.roll(0, 20, 3), 0);
        due("21 and 10 are", x.roll(0, 21, 3), 1);
        due("no NEXT", x.roll(1, 99999, 3), 0);
        due("9989 and 10 are not above 9999", x.roll(2, 9989, 3), 0);
        due("9990 and 10 are", x.roll(2, 9990, 3), 1);
        x = stair("stone s weight 2 rest 10 at 0 0;stone t weight 2 rest 9 at 0 3;");
        due("the DROP alone is not above", x.roll(0, 0, 3), 0);
        due("the DROP alone is above", x.roll(1, 0, 3), 1);
    }

    private static void rolling() {
        says("It ROLLS then, its SPEED 0 at first, as long as its cell has a NEXT:");
        BoulderDowry x = stair("stone s weight 1 rest 0 at 0 0;");
        due("speed by the least PUSH", x.roll(0, 0, 5), 40);
        due("the PUSH gives no speed", x.roll(0, 99999, 5), 40);
        due("to the cell without a NEXT", x.roll(0, 0, 0), 8);
        due("into four cells", x.path(0, 0, NONE), 4);
        x.net(4, true);
        x.lever(0, 1);
        due("0 at first again", x.roll(0, 0, 5), 20);
    }

    private static void forces() {
        says("SPEED grows by the DROP; FORCE is SPEED times weight.");
        String s = "stone s weight 7 rest 0 at 0 0;";
        due("speed 20 times 7 against 140", stair(s + "wall 140 at 0 2;").roll(0, 0, 2), 0);
        due("speed 20 times 7 against 139", stair(s + "wall 139 at 0 2;").roll(0, 0, 2), 1);
        due("speed 10 times 7 against 70", stair(s + "wall 70 at 0 1;").roll(0, 0, 2), 0);
        due("speed 10 times 7 against 69", stair(s + "wall 69 at 0 1;").roll(0, 0, 2), 1);
        BoulderDowry x = Check.of("field 2 2;row 999 999;row 0 999;stone s weight 999 rest 0 at 0 0;wall 9999 at 0 1;");
        due("speed 999", x.roll(0, 0, 5), 999);
        due("999 times 999 against 9999", x.lever(0, 1), 1);
    }

    private static void pushing() {
        says("Is there a STONE in NEXT, it stays, and that one has a PUSH of floor(FORCE / its weight):");
        String s = "stone s weight 2 rest 0 at 0 0;stone t weight 3 rest ";
        BoulderDowry x = stair(s + "15 at 0 1;");
        due("floor(20 / 3) and 10 are above 15", x.roll(0, 0, 3), 2);
        due("it stays", x.roll(0, 0, 0), 0);
        x = stair(s + "16 at 0 1;");
        due("floor(20 / 3) and 10 are not above 16", x.roll(0, 0, 3), 1);
        due("it stays all the same", x.roll(0, 0, 0), 0);
        due("it had a speed", x.roll(0, 0, 5), 10);
        due("no cell", x.lever(0, 1), 0);
        due("the other one has no ROLL", x.stone(1, 4), 0);
        x = stair(s + "0 at 0 4;");
        due("three cells, then a STONE", x.path(0, 0, NONE), 3);
        due("a PUSH without a NEXT starts nothing", x.roll(0, 0, 3), 1);
        says("if it STARTS by that, it ROLLS, when this ROLL has ended.");
        x = stair("stone s weight 2 rest 0 at 0 0;stone t weight 3 rest 15 at 0 1;stone u weight 5 rest 15 at 0 2;");
        due("one pushes one that pushes one", x.roll(0, 0, 3), 3);
        due("the first stays", x.lever(0, 1), 0);
        due("though the way is free behind that", x.stone(0, 2), 0);
        due("the second stays too", x.stone(1, 2), 2);
        due("the third goes all the way", x.stone(2, 2), 8);
        for (int i = 0; i < 3; i++) {
            due("a ROLL each", x.stone(i, 4), 1);
        }
    }

    private static void walls() {
        says("Is there a WALL: if FORCE is not above what it holds, it holds so much less (at 0 it is gone), and the STONE stays;");
        String s = "stone s weight 3 rest 0 at 0 0;";
        BoulderDowry x = stair(s + "wall 31 at 0 1;");
        due("it stays", x.lever(0, 1), 0);
        due("30 less", x.cell(2, 4), 1);
        due("the WALL is there", x.has(3), 1);
        due("a ROLL all the same", x.stone(0, 4), 1);
        x = stair(s + "wall 30 at 0 1;");
        due("not by FORCE above", x.roll(0, 0, 2), 0);
        due("FORCE 30 against 30: it stays", x.lever(0, 1), 0);
        due("at 0", x.cell(2, 4), 0);
        due("it is gone", x.has(3), 0);
        due("free now", x.lever(0, 1), 4);
        x = Check.of("field 2 2;row 1 1;stone s weight 1 rest 0 at 0 0;wall 1 at 0 1;");
        due("FORCE 1 against 1: it stays", x.lever(0, 1), 0);
        due("it is gone", x.has(3), 0);
        says("else it is gone, SPEED becomes floor((FORCE less what it held) / weight), and the STONE comes there.");
        x = stair(s + "wall 29 at 0 1;");
        due("FORCE 30 against 29", x.roll(0, 0, 2), 1);
        due("SPEED 0: it comes there", x.lever(0, 1), 1);
        due("it is gone", x.has(3), 0);
        due("FORCE 30 against 28: SPEED 0", stair(s + "wall 28 at 0 1;").roll(0, 0, 0), 2);
        x = stair(s + "wall 27 at 0 1;");
        due("FORCE 30 against 27: SPEED 1", x.roll(0, 0, 0), 8);
        due("1 and 30", x.roll(0, 0, 5), 31);
        due("floor(4 / 3) and 30", stair(s + "wall 26 at 0 1;").roll(0, 0, 5), 31);
        due("floor(6 / 3) and 30", stair(s + "wall 24 at 0 1;").roll(0, 0, 5), 32);
        due("floor(29 / 3) and 30", stair(s + "wall 1 at 0 1;").roll(0, 0, 5), 39);
    }

    private static void housesAndNets() {
        says("Is there a whole HOUSE, it comes to be a ruin, and the STONE comes there and lies there.");
        BoulderDowry x = stair("stone s weight 999 rest 0 at 0 0;house h worth 1 at 0 2;house i worth 1 at 0 3;");
        due("two cells, whatever its speed", x.lever(0, 1), 2);
        due("it lies there", x.stone(0, 2), 4);
        due("a ruin", x.house(0, 2), 1);
        due("the other one is whole", x.house(1, 2), 0);
        due("from the ruin into the other one", x.lever(0, 1), 1);
        due("a ruin too", x.house(1, 2), 1);
        due("the first one still", x.house(0, 2), 1);
        says("Else it comes there: is there a NET, it lies there;");
        x = stair("stone s weight 999 rest 0 at 0 0;");
        x.net(4, true);
        due("into the NET", x.lever(0, 1), 2);
        due("it lies there", x.stone(0, 2), 4);
        due("its own NET does not hold it", x.lever(0, 1), 2);
        x = stair("stone s weight 3 rest 0 at 0 0;house h worth 1 at 0 1;");
        x.net(2, true);
        x.lever(0, 1);
        due("no NET saves a HOUSE where it is", x.house(0, 2), 1);
    }

    private static void roughness() {
        says("else SPEED loses the roughness of that cell: it lies there, if SPEED is not above 0 then.");
        String s = "stone s weight 3 rest 0 at 0 0;";
        due("10 less 10", stair(s + "rough 10 at 0 1;").roll(0, 0, 0), 2);
        due("10 less 9", stair(s + "rough 9 at 0 1;").roll(0, 0, 0), 8);
        due("10 less 11", stair(s + "rough 11 at 0 1;").roll(0, 0, 0), 2);
        due("10 less 99", stair(s + "rough 99 at 0 1;").roll(0, 0, 0), 2);
        due("10 less 5 and 10 less 15", stair(s + "rough 5 at 0 1;rough 15 at 0 2;").roll(0, 0, 0), 4);
        due("10 less 5 and 10 less 14", stair(s + "rough 5 at 0 1;rough 14 at 0 2;").roll(0, 0, 0), 8);
        due("that speed", stair(s + "rough 5 at 0 1;rough 14 at 0 2;").roll(0, 0, 5), 21);
        due("not of the cell where it lay", stair(s + "rough 99 at 0 0;").roll(0, 0, 0), 8);
        says("(Where a WALL has gone, so likewise.)");
        due("SPEED 2 less 2", stair(s + "wall 24 at 0 1;rough 2 at 0 1;").roll(0, 0, 0), 2);
        due("SPEED 2 less 1", stair(s + "wall 24 at 0 1;rough 1 at 0 1;").roll(0, 0, 0), 8);
        BoulderDowry x = stair(s + "wall 24 at 0 1;");
        x.net(2, true);
        due("a NET behind the WALL", x.roll(0, 0, 0), 2);
    }

    private static void levers() {
        says("ACTS: LEVER a STONE by men: it STARTS by a PUSH of 10 times the men, or not.");
        BoulderDowry x = stair("stone s weight 2 rest 30 at 0 0;stone t weight 2 rest 999 at 1 0;stone u weight 2 rest 1030 at 1 1;");
        due("20 and 10 are not above 30", x.lever(0, 2), 0);
        due("no ROLL", x.stone(0, 4), 0);
        due("an ACT", x.has(11), 1);
        due("30 and 10 are", x.lever(0, 3), 4);
        due("a ROLL", x.stone(0, 4), 1);
        due("960 and 40 are above 999", x.lever(1, 96), 4);
        due("980 and 50 are not above 1030", x.lever(2, 98), 0);
        due("990 and 50 are", x.lever(2, 99), 2);
    }

    private static void springs() {
        says("SPRING of a strength: STONES by numbers, each that is not TAKEN and STARTS by that PUSH, as all is then, ROLLS, with all that it pushes.");
        BoulderDowry x = stair("stone s weight 1 rest 0 at 0 0;stone t weight 1 rest 0 at 0 1;");
        due("the upper one first: it pushes the lower one", x.spring(0), 2);
        due("it stays", x.stone(0, 2), 0);
        due("the lower one goes all the way", x.stone(1, 2), 8);
        x = stair("stone s weight 1 rest 0 at 0 1;stone t weight 1 rest 0 at 0 0;");
        due("the lower one first", x.spring(0), 2);
        due("it goes all the way", x.stone(0, 2), 8);
        due("the upper one goes as far as that", x.stone(1, 2), 6);
        x = stair("stone s weight 1 rest 0 at 0 0;stone t weight 1 rest 0 at 0 1;");
        x.net(4, true);
        due("as all is then: one is pushed, and starts where it lies then", x.spring(0), 3);
        due("so it has two ROLLS", x.stone(1, 4), 2);
        x.undo();
        x.take(1);
        due("a TAKEN one does not", x.spring(0), 1);
        x = stair("stone s weight 1 rest 30 at 0 1;stone t weight 1 rest 31 at 1 4;");
        due("20 and 10 are not above 30", x.spring(20), 1);
        due("the other one has 80 more", x.stone(1, 4), 1);
        due("21 and 10 are", x.spring(21), 1);
    }

    private static void building() {
        says("A NET is laid in a cell (or taken away), a WALL built in a cell without STONE, whole HOUSE, WALL;");
        BoulderDowry x = stair("stone s weight 2 rest 0 at 0 0;house h worth 7 at 0 1;wall 5 at 0 2;");
        for (int place = 0; place < 10; place++) {
            due("a NET in " + place, x.net(place, true), true);
            due("there it is", x.cell(place, 8), 1);
        }
        due("taken away", x.net(7, false), true);
        due("there it is no more", x.cell(7, 8), 0);
        due("not where a STONE is", x.wall(0, 9), false);
        due("not where a whole HOUSE is", x.wall(2, 9), false);
        due("not where a WALL is", x.wall(4, 9), false);
        due("where a NET is", x.wall(6, 9), true);
        due("elsewhere", x.wall(7, 9), true);
        due("there it is", x.cell(7, 4), 9);
        says("a DITCH dug: the roughness of a cell so much more, 99 at most;");
        x = stair("rough 97 at 0 0;");
        due("so much more than 0", x.dig(2, 3), 3);
        due("so much more than that", x.dig(2, 3), 6);
        due("97 and 2", x.dig(0, 2), 99);
        due("99 and 1", x.dig(0, 1), 99);
        due("6 and 99", x.dig(2, 99), 99);
        says("a STONE is TAKEN.");
        x = stair("stone s weight 2 rest 0 at 0 0;");
        due("its weight", x.take(0), 2);
        due("it lies nowhere", x.stone(0, 2), NONE);
        due("its cell is free", x.wall(0, 1), true);
    }

    private static void undoing() {
        says("The last 30 ACTS can be undone.");
        BoulderDowry x = stair("");
        for (int i = 1; i <= 31; i++) {
            x.dig(0, 1);
            due("30 at most", x.has(11), Math.min(30, i));
        }
        for (int i = 30; i >= 1; i--) {
            due("undone", x.undo(), true);
            due("as it was", x.cell(0, 1), i);
        }
        due("not the 31st", x.undo(), false);
        due("that one stays", x.cell(0, 1), 1);
    }
}
