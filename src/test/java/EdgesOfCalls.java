/** Promises 1 to 22, sentence by sentence: the tape, what there is, and acts. */
final class EdgesOfCalls {
    private static final int NONE = BoulderDowry.NONE;
    private static final int NOTHING = BoulderDowry.NOTHING;
    private static final int MOST = Integer.MAX_VALUE;
    private static final int LEAST = Integer.MIN_VALUE;

    private EdgesOfCalls() {
    }

    static void all() {
        constants();
        newObject();
        feed();
        end();
        slope();
        slopeStays();
        slopeAnew();
        fault();
        has();
        letter();
        cell();
        stone();
        house();
        owner();
        dues();
        law();
        lever();
        spring();
        goOn();
        seed();
        net();
        wall();
        dig();
        take();
        undo();
    }

    private static void says(int promise, String words) {
        Says.says(promise, words);
    }

    private static void due(String what, long got, long want) {
        Check.due(what, got, want);
    }

    private static void due(String what, boolean got, boolean want) {
        Check.due(what, got, want);
    }

    private static BoulderDowry stair(String more) {
        return Texts.stair(more);
    }

    private static void constants() {
        Says.says("NONE", "None; refused.");
        due("NONE", BoulderDowry.NONE, -1);
        Says.says("NOTHING", "Told where a number below 0 may be one.");
        due("NOTHING", BoulderDowry.NOTHING, -1000000000);
    }

    private static void newObject() {
        says(1, "No field; the seed is 1.");
        BoulderDowry x = new BoulderDowry();
        for (int i = 0; i < 13; i++) {
            due("has(" + i + ")", x.has(i), 0);
        }
        due("the seed", x.has(13), 1);
        due("no cell", x.cell(0, 0), NONE);
        due("no stone", x.stone(0, 0), NONE);
        due("no house", x.house(0, 0), NONE);
        due("no owner", x.owner(0, 0), NOTHING);
        due("no name", x.letter(0, 0, 0), NONE);
        due("no due", x.due(0, 0), NONE);
        due("no law", x.law(9, 9, 9, 1, 9), 0);
        due("no NET", x.net(0, true), false);
        due("no NETS", x.nets(NONE), NONE);
        due("no STONE rolls", x.spring(9999), 0);
        due("an empty tape", x.end(1), false);
    }

    private static void feed() {
        says(2, "Twenty bytes come behind those on the tape, of each number the highest first: how many there are;");
        BoulderDowry x = new BoulderDowry();
        due("20", x.feed(0x6669656c, 0x64203220, 0x333b6f77, 0x6e657220, 0x61626364), 20);
        due("20 more", x.feed(0x65663b77, 0x616c6c20, 0x39206174, 0x20302030, 0x3b202020), 40);
        due("three statements", x.slope(), 3);
        for (int k = 0; k < 6; k++) {
            due("letter " + k, x.letter(0, 0, k), k + 1);
        }
        due("behind an end(7)", x.feed(0, 0, 0, 0, 0) + (x.end(7) ? 0 : 99), 20);
        due("7 and 20", x.feed(0, 0, 0, 0, 0), 27);
        x = Check.of("field 2 2;rough 1 at 0 0;");
        x.wall(3, 255 * 16 + 15);
        byte[] image = Check.image(x);
        for (int i = 0; i < 98 && image[image.length - 1] >= 0; i++) {
            x.dig(0, 1);
            image = Check.image(x);
        }
        due("a byte above 127", image[image.length - 1] < 0, true);
        Check.feed(x, image);
        due("is that byte", x.on(), true);
        says(2, "NONE, refused (0), if there would be more than 1600.");
        x = new BoulderDowry();
        for (int i = 1; i <= 80; i++) {
            due("feed " + i, x.feed(i, i, i, i, i), 20 * i);
        }
        due("1620", x.feed(0, 0, 0, 0, 0), NONE);
        due("refused", x.status(0), 1);
        due("1600 are there", x.end(1600), true);
        x.end(1581);
        due("1601", x.feed(0, 0, 0, 0, 0), NONE);
        due("1581 are there", x.end(1582), false);
        x.end(1580);
        due("1600", x.feed(0, 0, 0, 0, 0), 1600);
        due("refused", x.status(0), 3);
    }

    private static void end() {
        says(3, "The tape has its first n bytes alone: true;");
        BoulderDowry x = new BoulderDowry();
        due("an empty tape has 0", x.end(0), true);
        Check.feed(x, Check.bytes("field 2 2;owner abcd;"));
        due("10", x.end(10), true);
        due("the same again", x.end(10), true);
        due("one statement", x.slope(), 1);
        due("no owner", x.has(0), 0);
        Check.feed(x, Check.bytes("field 2 2;owner abcd;"));
        due("none", x.end(0), true);
        due("no text", x.slope(), NONE);
        due("at 0", x.fault(1), 0);
        says(3, "false, refused (0), if it has not so many, or n is below 0.");
        x = new BoulderDowry();
        due("an empty tape has not 1", x.end(1), false);
        Check.feed(x, Check.bytes("field 2 2;"));
        due("11 of 10", x.end(11), false);
        due("-1", x.end(-1), false);
        due("the least", x.end(LEAST), false);
        due("the most", x.end(MOST), false);
        due("refused", x.status(0), 5);
        due("the tape is as it was", x.slope(), 1);
    }

    private static void slope() {
        says(4, "The tape (it goes) is THE SLOPE: how many STATEMENTS;");
        BoulderDowry x = new BoulderDowry();
        due("one", Check.tell(x, "field 2 2;"), 1);
        due("the tape went", x.end(1), false);
        due("100", Check.tell(x, "field 3 2;" + "rough 1 at 0 0;".repeat(99)), 100);
        due("it is THE SLOPE", x.has(7), 3);
        due("1600 bytes", Check.tell(x, "field 4 2;" + " ".repeat(1582) + "rope 17;"), 2);
        due("the last of them too", x.has(5), 1);
        says(4, "NONE, refused (1), with a FAULT");
        due("a FAULT", Check.tell(x, "field 2 2;x"), NONE);
        due("refused", x.status(1), 1);
        due("the tape went", x.end(1), false);
        due("an empty tape has a FAULT", x.slope(), NONE);
        due("refused", x.status(1), 2);
        says(4, "one without a STATEMENT has FAULT 1 at its length).");
        int[] lengths = {0, 1, 2, 1600};
        for (int length : lengths) {
            due("length " + length, Check.tell(x, (" \n".repeat(800)).substring(0, length)), NONE);
            due("FAULT 1", x.fault(0), 1);
            due("at its length", x.fault(1), length);
        }
    }

    private static void slopeStays() {
        says(4, "(all stays;");
        BoulderDowry x = stair("stone s weight 2 rest 0 at 0 0;house h worth 7 at 0 3;due 5 when all;thaw 1 odds 1;rope 6;");
        x.seed(77);
        x.lever(0, 1);
        x.net(9, true);
        byte[] before = Check.image(x);
        due("a FAULT at the end", Check.tell(x, "field 3 3;row 1 1 1;owner z;stone y weight 9 rest 9 at 2 2;rope"), NONE);
        due("one FAULT behind another", Check.tell(x, "field 2 2;rope 0;"), NONE);
        int[] has = {2, 1, 1, 0, 1, 1, 1, 2, 5, 1, 1, 2, 1, 77};
        for (int i = 0; i < has.length; i++) {
            due("has(" + i + ")", x.has(i), has[i]);
        }
        due("name", x.letter(0, 1, 0), 2);
        due("height", x.cell(2, 0), 40);
        due("ROLLS", x.stone(0, 4), 1);
        due("cells", x.stone(0, 5), 3);
        due("a DUE", x.due(0, 2), 5);
        due("balance", x.owner(1, 4), 5);
        due("LAW", x.law(1, 1, 1, 1, 1), 5);
        due("the latest image", x.octet(0), before[0]);
        byte[] after = Check.image(x);
        for (int i = 0; i < before.length; i++) {
            due("image " + i, after[i], before[i]);
        }
        due("undone", x.undo() && x.undo(), true);
        due("as at first", x.stone(0, 2), 0);
    }

    private static void slopeAnew() {
        says(4, "Without one there are no ROLLS, DUES, NETS, no ACT can be undone; the seed stays.");
        String text = "stone s weight 2 rest 0 at 0 0;house h worth 7 at 0 3;due 5 when all;wall 3 at 1 1;";
        BoulderDowry x = stair(text);
        x.seed(77);
        x.lever(0, 1);
        x.net(9, true);
        x.wall(7, 3);
        x.dig(7, 3);
        due("the same SLOPE", Check.tell(x, Texts.STAIR + text), 14);
        due("no ROLLS", x.stone(0, 4), 0);
        due("no cells", x.stone(0, 5), 0);
        due("where it is told", x.stone(0, 2), 0);
        due("a whole HOUSE", x.house(0, 2), 0);
        due("no DUES", x.has(12), 0);
        due("none told", x.due(0, 0), NONE);
        due("none received", x.owner(1, 4), 0);
        due("none paid", x.owner(0, 4), 0);
        due("no NETS", x.has(10), 0);
        due("no NET there", x.cell(9, 8), 0);
        due("the told WALL alone", x.has(3), 1);
        due("no DITCH", x.cell(7, 1), 0);
        due("no ACT", x.has(11), 0);
        due("none can be undone", x.undo(), false);
        due("the seed stays", x.has(13), 77);
        String full = "field 2 2;row 9 8;row 7 6;rough 9 at 0 0;owner a;land a at 0 0 to 1 1;stone s weight 1 rest 0 at 0 0;house h worth 1 at 1 0;"
                + "wall 1 at 0 1;thaw 1 odds 1;rope 1;due 1 when all;";
        due("one SLOPE", Check.tell(x, full), 12);
        due("one more", Check.tell(x, full), 12);
        bare(x);
        due("another one", Check.tell(x, full), 12);
        bare(x);
        for (int i = 1; i <= 6; i++) {
            due("long LAWS", Check.tell(x, "field 2 2;due 0" + ("+" + i).repeat(700) + " when all;"), 2);
            due("of that SLOPE alone", x.law(0, 0, 0, 0, 0), 700 * i);
        }
    }

    private static void bare(BoulderDowry x) {
        due("a bare SLOPE", Check.tell(x, "field 2 2;"), 1);
        int[] has = {0, 0, 0, 0, 0, 0, 0, 2, 2, 0, 0, 0, 0, 77};
        for (int i = 0; i < has.length; i++) {
            due("a bare SLOPE: has(" + i + ")", x.has(i), has[i]);
        }
        for (int i = 0; i < 4; i++) {
            due("no height", x.cell(i, 0), 0);
            due("no roughness", x.cell(i, 1), 0);
            due("nobody's", x.cell(i, 2), NONE);
            due("no STONE", x.cell(i, 3), NONE);
            due("no HOUSE", x.cell(i, 5), NONE);
        }
        due("no LAW", x.law(1, 1, 1, 1, 1), 0);
    }

    private static void fault() {
        says(5, "Of the latest slope(): its FAULT (what 0; 0 without, and ahead of any), its place (1; NONE without).");
        BoulderDowry x = new BoulderDowry();
        due("ahead of any", x.fault(0), 0);
        due("ahead of any: no place", x.fault(1), NONE);
        Check.tell(x, "field 2 2;rope 0;");
        due("a FAULT", x.fault(0), 4);
        due("its place", x.fault(1), 15);
        x.end(1);
        x.undo();
        due("no other call changes it", x.fault(0), 4);
        Check.tell(x, "row 2 2;");
        due("place 0", x.fault(1), 0);
        due("of the latest", x.fault(0), 1);
        Check.tell(x, "field 2 2;");
        due("without", x.fault(0), 0);
        due("without: no place", x.fault(1), NONE);
        says(5, "NONE for another what.");
        Check.tell(x, "field 2 2;rope 0;");
        for (int bad : new int[] {-1, 2, MOST, LEAST}) {
            due("what " + bad, x.fault(bad), NONE);
        }
    }

    private static void has() {
        says(6, "How many there are: 0 OWNERS, 1 STONES, 2 HOUSES, 3 WALLS now, 4 THAWS, 5 ROPES, 6 LAWS, 7 WIDE, 8 HIGH, 9 STONES not TAKEN, "
                + "10 NETS, 11 ACTS that can be undone, 12 DUES that are told, 13 the seed.");
        String text = "field 3 5;owner a;owner b;owner c;owner d;stone e weight 1 rest 0 at 0 0;stone f weight 1 rest 0 at 1 0;house g worth 1 at 2 0;"
                + "wall 1 at 0 1;wall 1 at 1 1;wall 1 at 2 1;" + "thaw 1 odds 1;".repeat(5) + "rope 1;".repeat(6) + "due 1 when all;".repeat(7);
        BoulderDowry x = Check.of(text);
        int[] want = {4, 2, 1, 3, 5, 6, 7, 3, 5, 2, 0, 0, 0, 1};
        for (int i = 0; i < want.length; i++) {
            due("has(" + i + ")", x.has(i), want[i]);
        }
        x.take(0);
        due("STONES all the same", x.has(1), 2);
        due("STONES not TAKEN", x.has(9), 1);
        x.wall(14, 1);
        due("WALLS now", x.has(3), 4);
        for (int i = 0; i < 15; i++) {
            x.net(i, true);
        }
        due("NETS in all cells", x.has(10), 15);
        due("ACTS", x.has(11), 17);
        x.seed(0);
        due("seed 0", x.has(13), 0);
        says(6, "NONE for others.");
        for (int bad : new int[] {-1, 14, MOST, LEAST}) {
            due("what " + bad, x.has(bad), NONE);
        }
    }

    private static void letter() {
        says(7, "Letter k (0 .. 5) of the NAME of an OWNER (kind 0), a STONE (1), a HOUSE (2): 1 .. 26; 0 behind it;");
        BoulderDowry x = Check.of("field 2 2;owner a;owner bcdefg;stone zy weight 1 rest 1 at 0 0;house xwvuts worth 1 at 0 1;");
        int[][] want = {{1, 0, 0, 0, 0, 0}, {2, 3, 4, 5, 6, 7}, {26, 25, 0, 0, 0, 0}, {24, 23, 22, 21, 20, 19}};
        for (int k = 0; k < 6; k++) {
            due("owner 0, " + k, x.letter(0, 0, k), want[0][k]);
            due("owner 1, " + k, x.letter(0, 1, k), want[1][k]);
            due("stone 0, " + k, x.letter(1, 0, k), want[2][k]);
            due("house 0, " + k, x.letter(2, 0, k), want[3][k]);
        }
        x.take(0);
        due("of a TAKEN one too", x.letter(1, 0, 0), 26);
        says(7, "NONE when there is none such.");
        for (int bad : new int[] {-1, 6, 7, MOST, LEAST}) {
            due("k " + bad, x.letter(0, 1, bad), NONE);
        }
        for (int bad : new int[] {-1, 3, MOST, LEAST}) {
            due("kind " + bad, x.letter(bad, 0, 0), NONE);
        }
        int[] count = {2, 1, 1};
        for (int kind = 0; kind < 3; kind++) {
            for (int bad : new int[] {-1, count[kind], 10, MOST, LEAST}) {
                due("kind " + kind + ", which " + bad, x.letter(kind, bad, 0), NONE);
            }
        }
    }

    private static void cell() {
        says(8, "Of a cell: 0 height, 1 roughness, 2 OWNER (NONE nobody's), 3 STONE (NONE without), 4 what a WALL holds (0 without), "
                + "5 HOUSE, whole or not (NONE without), 6 NEXT (NONE without), 7 DROP, 8 whether there is a NET, "
                + "9 the cell to which one comes by NEXT after NEXT (itself without).");
        BoulderDowry x = stair("rough 7 at 0 2;stone s weight 1 rest 0 at 0 2;stone t weight 1 rest 0 at 1 2;house h worth 1 at 0 3;house i worth 1 at 1 3;"
                + "wall 77 at 1 1;");
        x.net(4, true);
        int[][] want = {
            {50, 0, 0, NONE, 0, NONE, 2, 10, 0, 8}, {90, 0, 0, NONE, 0, NONE, 0, 40, 0, 8},
            {40, 0, 0, NONE, 0, NONE, 4, 10, 0, 8}, {90, 0, 0, NONE, 77, NONE, 2, 50, 0, 8},
            {30, 7, 1, 0, 0, NONE, 6, 10, 1, 8}, {90, 0, NONE, 1, 0, NONE, 4, 60, 0, 8},
            {20, 0, 1, NONE, 0, 0, 8, 10, 0, 8}, {90, 0, NONE, NONE, 0, 1, 6, 70, 0, 8},
            {10, 0, 1, NONE, 0, NONE, NONE, 0, 0, 8}, {90, 0, NONE, NONE, 0, NONE, 8, 80, 0, 8}};
        for (int place = 0; place < 10; place++) {
            for (int i = 0; i < 10; i++) {
                due("cell(" + place + ", " + i + ")", x.cell(place, i), want[place][i]);
            }
        }
        x.lever(0, 1);
        due("a ruin is a HOUSE", x.cell(6, 5), 0);
        due("with a STONE in it", x.cell(6, 3), 0);
        says(8, "NONE when there is none such, or for others.");
        for (int bad : new int[] {-1, 10, 64, MOST, LEAST}) {
            for (int i = 0; i < 10; i++) {
                due("cell " + bad + ", " + i, x.cell(bad, i), NONE);
            }
            due("what " + bad, x.cell(0, bad), NONE);
        }
    }

    private static void stone() {
        says(9, "Of a STONE: 0 weight, 1 rest, 2 its place (NONE: TAKEN), 3 OWNER (NONE without), 4 ROLLS so far, 5 cells into which it has come so far, "
                + "6 the least PUSH (0 at least) by which it STARTS (NONE: TAKEN, or without a NEXT), 7 whether it is HELD.");
        BoulderDowry x = stair("stone s weight 3 rest 30 at 0 1;stone t weight 4 rest 9 at 0 2;stone u weight 5 rest 10 at 0 3;stone v weight 6 rest 7 at 0 4;"
                + "stone w weight 1 rest 9999 at 1 4;");
        int[][] want = {{3, 30, 2, 0, 0, 0, 21, 1}, {4, 9, 4, 1, 0, 0, 0, 1}, {5, 10, 6, 1, 0, 0, 1, 1}, {6, 7, 8, 1, 0, 0, NONE, 0},
            {1, 9999, 9, NONE, 0, 0, 9920, 1}};
        for (int s = 0; s < want.length; s++) {
            for (int i = 0; i < 8; i++) {
                due("stone(" + s + ", " + i + ")", x.stone(s, i), want[s][i]);
            }
        }
        x.take(3);
        int[] taken = {6, 7, NONE, NONE, 0, 0, NONE, 0};
        for (int i = 0; i < 8; i++) {
            due("TAKEN: " + i, x.stone(3, i), taken[i]);
        }
        due("no more HELD", x.stone(2, 7), 0);
        x.lever(2, 1);
        due("one ROLL", x.stone(2, 4), 1);
        due("one cell", x.stone(2, 5), 1);
        x.lever(1, 1);
        due("a ROLL that pushes nothing further", x.stone(2, 4), 1);
        x.lever(0, 3);
        x.lever(0, 3);
        due("ROLLS are counted together", x.stone(0, 4), 2);
        due("cells are counted together", x.stone(0, 5), 1);
        says(9, "NONE when there is none such, or for others.");
        for (int bad : new int[] {-1, 5, 10, MOST, LEAST}) {
            for (int i = 0; i < 8; i++) {
                due("stone " + bad + ", " + i, x.stone(bad, i), NONE);
            }
        }
        for (int bad : new int[] {-1, 8, MOST, LEAST}) {
            due("what " + bad, x.stone(0, bad), NONE);
        }
    }

    private static void house() {
        says(10, "Of a HOUSE: 0 worth, 1 its place, 2 whether it is a ruin, 3 OWNER (NONE without).");
        BoulderDowry x = stair("house h worth 999 at 0 1;house i worth 1 at 1 4;house j worth 5 at 0 3;stone s weight 1 rest 0 at 0 2;");
        int[][] want = {{999, 2, 0, 0}, {1, 9, 0, NONE}, {5, 6, 0, 1}};
        for (int h = 0; h < want.length; h++) {
            for (int i = 0; i < 4; i++) {
                due("house(" + h + ", " + i + ")", x.house(h, i), want[h][i]);
            }
        }
        x.lever(0, 1);
        int[] ruin = {5, 6, 1, 1};
        for (int i = 0; i < 4; i++) {
            due("a ruin: " + i, x.house(2, i), ruin[i]);
        }
        due("the others are whole", x.house(0, 2) + x.house(1, 2), 0);
        says(10, "NONE when there is none such, or for others.");
        for (int bad : new int[] {-1, 3, 8, MOST, LEAST}) {
            for (int i = 0; i < 4; i++) {
                due("house " + bad + ", " + i, x.house(bad, i), NONE);
            }
        }
        for (int bad : new int[] {-1, 4, MOST, LEAST}) {
            due("what " + bad, x.house(0, bad), NONE);
        }
    }

    private static void owner() {
        says(11, "Of an OWNER: 0 cells, 1 STONES, 2 their weight together, 3 whole HOUSES, 4 DUES received less those paid (of all, told or not).");
        BoulderDowry x = stair("owner c;stone s weight 2 rest 0 at 0 0;stone t weight 999 rest 9999 at 1 0;stone u weight 7 rest 9999 at 1 2;"
                + "house h worth 7 at 0 3;house i worth 7 at 0 4;house j worth 7 at 1 1;house k worth 7 at 1 4;due 5 when all;");
        int[][] want = {{4, 2, 1001, 1, 0}, {3, 0, 0, 2, 0}, {0, 0, 0, 0, 0}};
        for (int o = 0; o < 3; o++) {
            for (int i = 0; i < 5; i++) {
                due("owner(" + o + ", " + i + ")", x.owner(o, i), want[o][i]);
            }
        }
        x.lever(0, 1);
        int[][] then = {{4, 1, 999, 1, -5}, {3, 1, 2, 1, 5}, {0, 0, 0, 0, 0}};
        for (int o = 0; o < 3; o++) {
            for (int i = 0; i < 5; i++) {
                due("behind a DUE: owner(" + o + ", " + i + ")", x.owner(o, i), then[o][i]);
            }
        }
        x.take(1);
        due("a TAKEN one is nobody's", x.owner(0, 1), 0);
        due("nor its weight", x.owner(0, 2), 0);
        says(11, "NOTHING when there is none such, or for others.");
        for (int bad : new int[] {-1, 3, 6, MOST, LEAST}) {
            for (int i = 0; i < 5; i++) {
                due("owner " + bad + ", " + i, x.owner(bad, i), NOTHING);
            }
        }
        for (int bad : new int[] {-1, 5, MOST, LEAST}) {
            due("what " + bad, x.owner(0, bad), NOTHING);
        }
    }

    private static void dues() {
        says(12, "Of the k-th DUE that is told: 0 PAYER, 1 RECEIVER, 2 how much, 3 the STONE.");
        BoulderDowry x = Check.of("field 2 5;row 50 90;row 40 90;row 30 90;row 20 90;row 10 90;owner z;owner a;owner b;land a at 0 0 to 0 2;land b at 0 3 to 0 4;"
                + "land z at 0 1 to 0 1;stone r weight 1 rest 0 at 1 4;stone s weight 2 rest 0 at 0 0;stone t weight 9 rest 0 at 0 2;"
                + "wall 1 at 0 1;house h worth 7 at 0 3;due worth when all;");
        x.spring(0);
        due("two", x.has(12), 2);
        int[][] want = {{1, 0, 1, 1}, {1, 2, 7, 2}};
        for (int k = 0; k < 2; k++) {
            for (int i = 0; i < 4; i++) {
                due("due(" + k + ", " + i + ")", x.due(k, i), want[k][i]);
            }
        }
        says(12, "NONE when there is none such, or for others.");
        for (int bad : new int[] {-1, 2, 99, 1 << 30, MOST, LEAST}) {
            for (int i = 0; i < 4; i++) {
                due("due " + bad + ", " + i, x.due(bad, i), NONE);
            }
        }
        for (int bad : new int[] {-1, 4, MOST, LEAST}) {
            due("what " + bad, x.due(0, bad), NONE);
            due("what " + bad, x.due(1, bad), NONE);
        }
        x.undo();
        due("undone", x.due(0, 0), NONE);
    }

    private static void law() {
        says(13, "What a DUE is by LAW, each number 0 .. 9999, wall 0 or 1;");
        BoulderDowry x = Check.of("field 2 2;due weight when speed=0 and worth=0;due worth when speed=1;due steps when wall=1;due 9 when steps=9999;");
        due("all 0", x.law(0, 0, 0, 0, 0), 0);
        due("weight 9999", x.law(9999, 0, 0, 0, 0), 9999);
        due("worth 9999", x.law(0, 1, 9999, 0, 0), 9999);
        due("steps 9999, wall 1", x.law(0, 9999, 0, 1, 9999), 9999);
        due("steps 9999", x.law(0, 9999, 0, 0, 9999), 9);
        due("no LAW", x.law(1, 2, 3, 0, 4), 0);
        says(13, "NONE when something can't be.");
        for (int bad : new int[] {-1, 10000, MOST, LEAST}) {
            due("weight " + bad, x.law(bad, 0, 0, 0, 0), NONE);
            due("speed " + bad, x.law(0, bad, 0, 0, 0), NONE);
            due("worth " + bad, x.law(0, 0, bad, 0, 0), NONE);
            due("steps " + bad, x.law(0, 0, 0, 0, bad), NONE);
        }
        for (int bad : new int[] {-1, 2, 9999, MOST, LEAST}) {
            due("wall " + bad, x.law(0, 0, 0, bad, 0), NONE);
        }
        due("without LAWS", new BoulderDowry().law(-1, 0, 0, 0, 0), NONE);
    }

    private static void lever() {
        says(14, "A STONE is LEVERED by men (1 .. 99): into how many cells it comes;");
        BoulderDowry x = stair("stone s weight 2 rest 9 at 0 2;stone t weight 2 rest 1030 at 1 1;stone u weight 2 rest 0 at 0 0;");
        due("by 1", x.lever(0, 1), 2);
        due("no NEXT", x.lever(0, 1), 0);
        due("by 99: 990 and 50 are above 1030", x.lever(1, 99), 3);
        due("as far as another STONE", x.lever(2, 1), 2);
        due("its own cells alone", stair("stone s weight 2 rest 9 at 0 0;stone t weight 2 rest 0 at 0 2;").lever(0, 1), 1);
        says(14, "NONE, refused (2), when there is none such, it is TAKEN, or men can't be.");
        int acts = x.has(11);
        for (int bad : new int[] {-1, 3, 10, MOST, LEAST}) {
            due("stone " + bad, x.lever(bad, 1), NONE);
        }
        for (int bad : new int[] {-1, 0, 100, MOST, LEAST}) {
            due("men " + bad, x.lever(0, bad), NONE);
        }
        due("refused", x.status(2), 10);
        due("no ACT", x.has(11), acts);
        x.take(0);
        due("TAKEN", x.lever(0, 1), NONE);
        due("refused", x.status(2), 11);
        due("no ACT but that", x.has(11), acts + 1);
    }

    private static void spring() {
        says(15, "SPRING of a strength (0 .. 9999): how many ROLLS;");
        BoulderDowry x = stair("stone s weight 1 rest 9 at 0 0;stone t weight 1 rest 9999 at 0 2;");
        due("0: 0 and 10 are above 9", x.spring(0), 1);
        due("9989 and 10 are not above 9999", x.spring(9989), 1);
        due("9999: and 10 are", x.spring(9999), 2);
        due("an ACT each", x.has(11), 3);
        BoulderDowry still = stair("stone s weight 1 rest 10 at 0 0;");
        due("none", still.spring(0), 0);
        due("an ACT all the same", still.has(11), 1);
        due("without a field", new BoulderDowry().spring(0), 0);
        says(15, "NONE, refused (2), when it can't be.");
        for (int bad : new int[] {-1, 10000, MOST, LEAST}) {
            due("strength " + bad, x.spring(bad), NONE);
        }
        due("refused", x.status(2), 4);
        due("no ACT", x.has(11), 3);
    }

    private static void goOn() {
        says(16, "IT GOES ON n times (1 .. 20), each an ACT: how many ROLLS;");
        BoulderDowry x = stair("stone s weight 1 rest 0 at 0 0;rough 99 at 0 1;rough 99 at 0 2;rough 99 at 0 3;thaw 0 odds 1;");
        due("once", x.goOn(1), 1);
        due("one ACT", x.has(11), 1);
        due("three more", x.goOn(20), 3);
        due("20 ACTS more", x.has(11), 21);
        for (int i = 0; i < 17; i++) {
            x.undo();
        }
        due("one by one", x.stone(0, 2), 8);
        x.undo();
        due("the fourth", x.stone(0, 2), 6);
        x.undo();
        due("the third", x.stone(0, 2), 4);
        says(16, "NONE, refused (2), when n can't be, or without THAWS.");
        int seed = x.has(13);
        for (int bad : new int[] {-1, 0, 21, MOST, LEAST}) {
            due("n " + bad, x.goOn(bad), NONE);
        }
        due("refused", x.status(2), 5);
        due("no ACT", x.has(11), 2);
        due("no DRAW", x.has(13), seed);
        x = stair("stone s weight 1 rest 0 at 0 0;");
        due("without THAWS", x.goOn(1), NONE);
        due("refused", x.status(2), 1);
        due("no DRAW", x.has(13), 1);
        due("without a field", new BoulderDowry().goOn(1), NONE);
    }

    private static void seed() {
        says(17, "The seed: true;");
        BoulderDowry x = stair("");
        due("0", x.seed(0), true);
        due("it is 0", x.has(13), 0);
        due("the most", x.seed(MOST), true);
        due("it is the most", x.has(13), MOST);
        due("no ACT", x.has(11), 0);
        says(17, "false, refused (5), when it is below 0.");
        due("-1", x.seed(-1), false);
        due("the least", x.seed(LEAST), false);
        due("as it was", x.has(13), MOST);
        due("refused", x.status(5), 2);
    }

    private static void net() {
        says(18, "A NET is laid in a cell (is true), or taken away: true;");
        BoulderDowry x = stair("");
        due("the first cell", x.net(0, true), true);
        due("the last cell", x.net(9, true), true);
        due("two", x.has(10), 2);
        due("taken away", x.net(0, false), true);
        due("the other one is there", x.cell(9, 8), 1);
        due("one", x.has(10), 1);
        BoulderDowry wide = Check.of("field 10 6;");
        due("cell 59", wide.net(59, true), true);
        due("is there", wide.cell(59, 8), 1);
        due("alone", wide.has(10), 1);
        says(18, "false, refused (3), when there is no such cell, or it is so already.");
        due("there already", x.net(9, true), false);
        due("not there already", x.net(0, false), false);
        for (int bad : new int[] {-1, 10, 63, 64, 73, MOST, LEAST}) {
            due("laid in " + bad, x.net(bad, true), false);
            due("taken from " + bad, x.net(bad, false), false);
        }
        due("refused", x.status(3), 16);
        due("no ACT", x.has(11), 3);
        due("without a field", new BoulderDowry().net(0, true), false);
    }

    private static void wall() {
        says(19, "A WALL that holds so much (1 .. 9999) is built: true;");
        BoulderDowry x = stair("stone s weight 1 rest 0 at 0 0;house h worth 1 at 0 1;wall 1 at 0 2;");
        due("1", x.wall(9, 1), true);
        due("it holds 1", x.cell(9, 4), 1);
        due("9999", x.wall(1, 9999), true);
        due("it holds 9999", x.cell(1, 4), 9999);
        BoulderDowry many = Check.of("field 10 6;");
        for (int i = 0; i < 60; i++) {
            due("in cell " + i, many.wall(i, i + 1), true);
        }
        due("60", many.has(3), 60);
        says(19, "false, refused (3), when it can't be there.");
        due("a STONE", x.wall(0, 5), false);
        due("a whole HOUSE", x.wall(2, 5), false);
        due("a WALL", x.wall(4, 5), false);
        due("one that was built", x.wall(9, 5), false);
        for (int bad : new int[] {-1, 10, 64, MOST, LEAST}) {
            due("cell " + bad, x.wall(bad, 5), false);
        }
        for (int bad : new int[] {-1, 0, 10000, MOST, LEAST}) {
            due("holds " + bad, x.wall(7, bad), false);
        }
        due("refused", x.status(3), 14);
        due("no ACT", x.has(11), 2);
        due("none there", x.cell(7, 4), 0);
    }

    private static void dig() {
        says(20, "A DITCH is dug, 1 .. 99 deep: the roughness then;");
        BoulderDowry x = stair("stone s weight 1 rest 0 at 0 0;house h worth 1 at 0 1;wall 1 at 0 2;");
        due("1 deep", x.dig(9, 1), 1);
        due("99 deep", x.dig(8, 99), 99);
        due("1 and 98", x.dig(9, 98), 99);
        due("99 at most", x.dig(9, 99), 99);
        due("where a STONE is", x.dig(0, 5), 5);
        due("where a HOUSE is", x.dig(2, 5), 5);
        due("where a WALL is", x.dig(4, 5), 5);
        due("the roughness", x.cell(4, 1), 5);
        says(20, "NONE, refused (3), when something can't be.");
        for (int bad : new int[] {-1, 10, 64, MOST, LEAST}) {
            due("cell " + bad, x.dig(bad, 1), NONE);
        }
        for (int bad : new int[] {-1, 0, 100, MOST, LEAST}) {
            due("deep " + bad, x.dig(7, bad), NONE);
        }
        due("refused", x.status(3), 10);
        due("no ACT", x.has(11), 7);
        due("as it was", x.cell(7, 1), 0);
    }

    private static void take() {
        says(21, "A STONE is TAKEN: its weight;");
        BoulderDowry x = stair("stone s weight 1 rest 0 at 0 0;stone t weight 999 rest 0 at 0 1;");
        due("999", x.take(1), 999);
        due("it is TAKEN", x.stone(1, 2), NONE);
        due("its cell is without", x.cell(2, 3), NONE);
        due("the other one is there", x.stone(0, 2), 0);
        due("1", x.take(0), 1);
        says(21, "NONE, refused (3), when there is none such, or it is TAKEN.");
        due("TAKEN", x.take(0), NONE);
        for (int bad : new int[] {-1, 2, 10, MOST, LEAST}) {
            due("stone " + bad, x.take(bad), NONE);
        }
        due("refused", x.status(3), 6);
        due("no ACT", x.has(11), 2);
    }

    private static void undo() {
        says(22, "The latest ACT is undone: all is as it was ahead of it (but the seed): true;");
        BoulderDowry x = stair("stone s weight 2 rest 0 at 0 0;stone t weight 2 rest 0 at 1 4;house h worth 7 at 0 3;wall 11 at 0 1;due 5 when all;thaw 0 odds 1;");
        byte[] start = Check.image(x);
        due("WALL, HOUSE, STONE, ROLLS, cells, DUES", x.spring(0), 2);
        due("a DUE", x.has(12), 1);
        due("undone", x.undo(), true);
        asAtFirst(x, start);
        x.lever(0, 1);
        x.net(5, true);
        x.wall(5, 7);
        x.dig(5, 7);
        x.take(0);
        x.net(5, false);
        for (int i = 5; i >= 0; i--) {
            due("undone", x.undo(), true);
            due("one less", x.has(11), i);
        }
        asAtFirst(x, start);
        x.goOn(2);
        int seed = x.has(13);
        due("undone", x.undo() && x.undo(), true);
        asAtFirst(x, start);
        due("but the seed", x.has(13), seed);
        x.lever(0, 1);
        due("a DUE again", x.due(0, 2), 5);
        due("told once", x.has(12), 1);
        says(22, "false, refused (4), when none can be.");
        x = stair("");
        due("none at first", x.undo(), false);
        for (int i = 0; i < 40; i++) {
            x.dig(i % 10, 1);
        }
        for (int i = 0; i < 30; i++) {
            due("one of 30", x.undo(), true);
        }
        due("not the 31st", x.undo(), false);
        due("refused", x.status(4), 2);
        due("ten are done", x.cell(9, 1), 1);
        x.seed(5);
        due("a seed is no ACT", x.undo(), false);
    }

    private static void asAtFirst(BoulderDowry x, byte[] start) {
        byte[] end = Check.image(x);
        for (int i = 0; i < start.length; i++) {
            due("as at first " + i, end[i], start[i]);
        }
        due("ROLLS", x.stone(0, 4) + x.stone(1, 4), 0);
        due("cells", x.stone(0, 5) + x.stone(1, 5), 0);
        due("DUES", x.has(12), 0);
        due("the first DUE", x.due(0, 0), NONE);
        due("balances", Math.abs(x.owner(0, 4)) + Math.abs(x.owner(1, 4)), 0);
    }
}
