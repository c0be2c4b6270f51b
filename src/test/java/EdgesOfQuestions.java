/** Promises 23 to 36, sentence by sentence: what would be, men, nets, dowries, whence, quarries, ropes. */
final class EdgesOfQuestions {
    private static final int NONE = BoulderDowry.NONE;
    private static final int MOST = Integer.MAX_VALUE;
    private static final int LEAST = Integer.MIN_VALUE;

    private EdgesOfQuestions() {
    }

    static void all() {
        path();
        roll();
        thaw();
        lies();
        hit();
        worst();
        men();
        crew();
        nets();
        dowry();
        whence();
        leans();
        quarry();
        ropes();
    }

    private static void says(int promise, String words) {
        Says.says(promise, words);
    }

    private static void due(String what, long got, long want) {
        Check.due(what, got, want);
    }

    private static BoulderDowry stair(String more) {
        return Texts.stair(more);
    }

    private static void path() {
        says(23, "A STONE's way by a PUSH (0 .. 99999), were it STARTED by that now: into how many cells it would come (k NONE; 0 when it does not START), "
                + "the k-th of these.");
        BoulderDowry x = stair("stone s weight 2 rest 30 at 0 0;stone t weight 2 rest 0 at 0 3;");
        due("it does not START", x.path(0, 20, NONE), 0);
        due("no first cell then", x.path(0, 20, 0), NONE);
        due("it STARTS", x.path(0, 21, NONE), 2);
        due("the first", x.path(0, 21, 0), 2);
        due("the second", x.path(0, 21, 1), 4);
        due("no third", x.path(0, 21, 2), NONE);
        due("99999", x.path(0, 99999, NONE), 2);
        due("0", x.path(1, 0, NONE), 1);
        due("nothing is done", x.stone(0, 2) + x.stone(1, 2) + x.stone(0, 4) + x.has(11), 6);
        says(23, "NONE when there is none such, it is TAKEN, or PUSH can't be.");
        for (int bad : new int[] {-1, 2, 10, MOST, LEAST}) {
            due("stone " + bad, x.path(bad, 21, NONE), NONE);
        }
        for (int bad : new int[] {-1, 100000, MOST, LEAST}) {
            due("PUSH " + bad, x.path(0, bad, NONE), NONE);
            due("PUSH " + bad, x.path(0, bad, 0), NONE);
        }
        for (int bad : new int[] {-2, 2, 59, 60, MOST, LEAST}) {
            due("k " + bad, x.path(0, 21, bad), NONE);
        }
        x.take(0);
        due("TAKEN", x.path(0, 21, NONE), NONE);
        due("TAKEN", x.path(0, 20, NONE), NONE);
    }

    private static void roll() {
        says(24, "By a PUSH (0 .. 99999) of a STONE, and all that this pushes: 0 where it would lie, 1 HOUSES that come to be ruins, "
                + "2 WALLS gone by FORCE above what they hold, 3 ROLLS, 4 worth of these HOUSES, 5 the greatest SPEED of all ROLLS (as FORCE is reckoned; 0 without).");
        BoulderDowry x = stair("stone s weight 20 rest 0 at 0 0;stone t weight 1 rest 0 at 0 2;wall 5 at 0 1;wall 3 at 0 3;house i worth 9 at 0 4;");
        int[] both = {2, 1, 2, 2, 9, 19};
        for (int i = 0; i < 6; i++) {
            due("with what it pushes: " + i, x.roll(0, 0, i), both[i]);
        }
        x = stair("stone s weight 20 rest 50 at 1 0;stone t weight 1 rest 0 at 0 1;wall 15 at 0 2;wall 1 at 0 0;house h worth 7 at 0 3;house i worth 9 at 0 4;"
                + "stone u weight 1 rest 0 at 1 4;");
        int[] pushed = {0, 0, 1, 2, 0, 49};
        int[] still = {1, 0, 0, 0, 0, 0};
        for (int i = 0; i < 6; i++) {
            due("pushed: " + i, x.roll(0, 11, i), pushed[i]);
            due("as hard as can be: " + i, x.roll(0, 99999, i), pushed[i]);
            due("not enough: " + i, x.roll(0, 10, i), still[i]);
            due("none: " + i, x.roll(0, 0, i), still[i]);
        }
        int[] falls = {8, 1, 0, 1, 9, 80};
        for (int i = 0; i < 6; i++) {
            due("into a HOUSE: " + i, x.roll(2, 0, i), falls[i]);
        }
        due("nothing is done", x.has(3) + x.has(11) + x.stone(0, 4), 2);
        x = stair("stone s weight 1 rest 0 at 0 0;wall 10 at 0 1;");
        due("a WALL gone at 0 is not by FORCE above", x.roll(0, 0, 2), 0);
        says(24, "NONE likewise, or for others.");
        for (int bad : new int[] {-1, 1, 10, MOST, LEAST}) {
            due("stone " + bad, x.roll(bad, 0, 0), NONE);
        }
        for (int bad : new int[] {-1, 100000, MOST, LEAST}) {
            due("PUSH " + bad, x.roll(0, bad, 0), NONE);
        }
        for (int bad : new int[] {-1, 6, MOST, LEAST}) {
            due("what " + bad, x.roll(0, 0, bad), NONE);
        }
        x.take(0);
        for (int i = 0; i < 6; i++) {
            due("TAKEN: " + i, x.roll(0, 0, i), NONE);
        }
    }

    private static void thaw() {
        says(25, "Of a THAW: 0 strength, 1 odds, 2 HOUSES that its SPRING would ruin, 3 their worth, 4 ROLLS of its SPRING.");
        BoulderDowry x = stair("stone s weight 1 rest 12 at 0 0;stone t weight 1 rest 90 at 1 4;house h worth 8 at 0 1;house i worth 9 at 0 4;"
                + "thaw 0 odds 1;thaw 3 odds 5;thaw 9999 odds 99;thaw 11 odds 1;thaw 1 odds 1;thaw 10 odds 6;");
        int[][] want = {{0, 1, 0, 0, 0}, {3, 5, 1, 8, 1}, {9999, 99, 2, 17, 2}, {11, 1, 2, 17, 2}, {1, 1, 0, 0, 0}, {10, 6, 1, 8, 1}};
        for (int t = 0; t < want.length; t++) {
            for (int i = 0; i < 5; i++) {
                due("thaw(" + t + ", " + i + ")", x.thaw(t, i), want[t][i]);
            }
        }
        due("nothing is done", x.house(0, 2) + x.stone(0, 4) + x.has(11), 0);
        x.spring(3);
        due("of a ruin no more", x.thaw(2, 2), 1);
        says(25, "NONE when there is none such, or for others.");
        for (int bad : new int[] {-1, 6, MOST, LEAST}) {
            for (int i = 0; i < 5; i++) {
                due("thaw " + bad + ", " + i, x.thaw(bad, i), NONE);
            }
        }
        for (int bad : new int[] {-1, 5, MOST, LEAST}) {
            due("what " + bad, x.thaw(0, bad), NONE);
        }
        due("without THAWS", stair("").thaw(0, 0), NONE);
    }

    private static void lies() {
        says(26, "A STONE's ODDS of a place (place NONE: of being TAKEN as it is: 1000 or 0);");
        BoulderDowry x = stair("stone s weight 1 rest 12 at 0 0;stone t weight 1 rest 0 at 0 4;thaw 2 odds 2;thaw 3 odds 1;");
        due("where it is", x.lies(0, 0), 666);
        due("where it comes", x.lies(0, 6), 333);
        due("elsewhere", x.lies(0, 8), 0);
        due("the one that stays", x.lies(1, 8), 1000);
        due("not TAKEN", x.lies(0, NONE), 0);
        x.take(1);
        due("TAKEN", x.lies(1, NONE), 1000);
        for (int i = 0; i < 10; i++) {
            due("TAKEN, at place " + i, x.lies(1, i), 0);
        }
        due("the other one farther then", x.lies(0, 8), 333);
        says(26, "NONE when there are none such, or no THAWS.");
        for (int bad : new int[] {-1, 2, 10, MOST, LEAST}) {
            due("stone " + bad, x.lies(bad, 0), NONE);
            due("stone " + bad, x.lies(bad, NONE), NONE);
        }
        for (int bad : new int[] {-2, 10, 64, MOST, LEAST}) {
            due("place " + bad, x.lies(0, bad), NONE);
            due("of a TAKEN one", x.lies(1, bad), NONE);
        }
        x = stair("stone s weight 1 rest 12 at 0 0;");
        due("no THAWS", x.lies(0, 0), NONE);
        due("no THAWS", x.lies(0, NONE), NONE);
        x.take(0);
        due("no THAWS, TAKEN", x.lies(0, NONE), NONE);
    }

    private static void hit() {
        says(27, "ODDS of a HOUSE to be hit (0 of a ruin);");
        BoulderDowry x = stair("stone s weight 1 rest 12 at 0 0;house h worth 8 at 0 1;house i worth 8 at 0 2;thaw 2 odds 2;thaw 3 odds 1;");
        due("a third", x.hit(0), 333);
        due("behind that one", x.hit(1), 0);
        x.spring(3);
        due("a ruin", x.hit(0), 0);
        due("the other one then", x.hit(1), 333);
        due("stair", stair("stone s weight 1 rest 0 at 0 0;house h worth 8 at 0 1;thaw 0 odds 99;").hit(0), 1000);
        says(27, "NONE when there is none such, or no THAWS.");
        for (int bad : new int[] {-1, 2, 8, 32, MOST, LEAST}) {
            due("house " + bad, x.hit(bad), NONE);
        }
        x = stair("stone s weight 1 rest 0 at 0 0;house h worth 8 at 0 1;");
        due("no THAWS", x.hit(0), NONE);
        x.spring(0);
        due("no THAWS, a ruin", x.hit(0), NONE);
    }

    private static void worst() {
        says(28, "THE WORST: the THAW (what 0), the worth (1).");
        BoulderDowry x = stair("stone s weight 1 rest 12 at 0 0;house h worth 999 at 0 1;thaw 2 odds 2;thaw 3 odds 1;");
        due("the THAW", x.worst(0), 1);
        due("the worth", x.worst(1), 999);
        x.take(0);
        due("none is worse than the first", x.worst(0), 0);
        due("no worth", x.worst(1), 0);
        says(28, "NONE without THAWS, or for others.");
        for (int bad : new int[] {-1, 2, MOST, LEAST}) {
            due("what " + bad, x.worst(bad), NONE);
        }
        x = stair("stone s weight 1 rest 12 at 0 0;");
        due("without THAWS", x.worst(0), NONE);
        due("without THAWS", x.worst(1), NONE);
        due("without a field", new BoulderDowry().worst(0), NONE);
    }

    private static void men() {
        says(29, "The fewest men (1 .. 99) behind whose LEVER a STONE would lie on an OWNER's land (whether it STARTS by them or not);");
        due("1: 10 and 10 are above 19", stair("stone s weight 1 rest 19 at 0 0;").men(0, 1), 1);
        due("2: 10 and 10 are not above 20", stair("stone s weight 1 rest 20 at 0 0;").men(0, 1), 2);
        due("1, though the DROP is enough", stair("stone s weight 1 rest 0 at 0 0;").men(0, 1), 1);
        due("99: 990 and 10 are above 999", stair("stone s weight 1 rest 999 at 0 0;").men(0, 1), 99);
        due("it does not START by 1, and lies there", stair("stone s weight 1 rest 20 at 0 0;").men(0, 0), 1);
        due("it STARTS, and lies there all the same", stair("stone s weight 1 rest 0 at 0 0;rough 10 at 0 1;").men(0, 0), 1);
        due("without a NEXT", stair("stone s weight 1 rest 0 at 0 4;").men(0, 1), 1);
        due("it STARTS, but another one lies in its way", stair("stone s weight 1 rest 0 at 0 0;stone t weight 99 rest 999 at 0 1;").men(0, 0), 1);
        says(29, "NONE when none do, or there are none such, or it is TAKEN.");
        due("it would not stay there", stair("stone s weight 1 rest 19 at 0 0;").men(0, 0), NONE);
        due("100 men", stair("stone s weight 1 rest 1000 at 0 0;").men(0, 1), NONE);
        due("without a NEXT", stair("stone s weight 1 rest 0 at 0 4;").men(0, 0), NONE);
        BoulderDowry x = stair("owner c;stone s weight 1 rest 19 at 0 0;");
        due("one without land", x.men(0, 2), NONE);
        due("onto nobody's land", stair("stone s weight 1 rest 0 at 1 0;rough 99 at 0 0;").men(0, 1), NONE);
        for (int bad : new int[] {-1, 1, 10, MOST, LEAST}) {
            due("stone " + bad, x.men(bad, 1), NONE);
        }
        for (int bad : new int[] {-1, 3, 6, MOST, LEAST}) {
            due("owner " + bad, x.men(0, bad), NONE);
        }
        due("nobody is no OWNER", stair("stone s weight 1 rest 0 at 1 4;wall 999 at 0 4;").men(0, NONE), NONE);
        x.take(0);
        due("TAKEN", x.men(0, 1), NONE);
        due("TAKEN, to nobody", x.men(0, NONE), NONE);
    }

    private static void crew() {
        says(30, "A CREW: men together (k NONE), men of the k-th of these STONES by numbers (0 .. 2), the STONE that is the k-th in the order (10 .. 12: k less 10).");
        BoulderDowry x = stair("stone z weight 1 rest 0 at 1 4;stone s weight 3 rest 0 at 0 0;stone t weight 3 rest 60 at 0 1;stone u weight 1 rest 0 at 0 4;");
        int[] want = {1, 6, 0, NONE, NONE, NONE, NONE, NONE, NONE, NONE, 2, 1, 3, NONE};
        due("together", x.crew(14, 1, NONE), 7);
        for (int k = 0; k < want.length; k++) {
            due("crew(14, 1, " + k + ")", x.crew(14, 1, k), want[k]);
        }
        due("one", x.crew(4, 1, NONE), 6);
        due("its men", x.crew(4, 1, 0), 6);
        due("itself", x.crew(4, 1, 10), 2);
        due("nothing is done", x.stone(1, 2) + x.stone(1, 4) + x.has(11), 0);
        says(30, "NONE when there is none such, or something can't be.");
        due("no second of one", x.crew(4, 1, 1), NONE);
        due("no second in the order of one", x.crew(4, 1, 11), NONE);
        due("no third of two", x.crew(6, 1, 2), NONE);
        due("no third in the order of two", x.crew(6, 1, 12), NONE);
        for (int bad : new int[] {-2, 3, 9, 13, MOST, LEAST}) {
            due("k " + bad, x.crew(14, 1, bad), NONE);
        }
        for (int bad : new int[] {0, 15, 16, 17, -1, -2, 1 << 30, MOST, LEAST}) {
            due("stones " + bad, x.crew(bad, 1, NONE), NONE);
        }
        for (int bad : new int[] {-1, 2, 6, MOST, LEAST}) {
            due("owner " + bad, x.crew(14, bad, NONE), NONE);
        }
        for (int k = -1; k < 13; k++) {
            due("no CREW brings u back: " + k, x.crew(8, 0, k), NONE);
        }
        x.take(2);
        due("one is TAKEN", x.crew(14, 1, NONE), NONE);
        due("the others", x.crew(10, 1, NONE), 1);
    }

    private static void nets() {
        says(31, "NETS: how many (k NONE), the k-th place.");
        String text = "field 4 3;row 9 9 9 9;row 5 5 5 5;row 1 1 1 1;stone a weight 1 rest 0 at 0 0;house b worth 1 at 0 2;stone c weight 1 rest 0 at 2 0;"
                + "house d worth 1 at 2 2;stone e weight 1 rest 0 at 3 0;house f worth 1 at 3 2;thaw 0 odds 1;";
        BoulderDowry x = Check.of(text);
        due("three", x.nets(NONE), 3);
        int[] want = {4, 6, 7, NONE};
        for (int k = 0; k < want.length; k++) {
            due("nets(" + k + ")", x.nets(k), want[k]);
        }
        due("nothing is done", x.has(10), 0);
        x.take(1);
        due("two", x.nets(NONE), 2);
        due("the second", x.nets(1), 7);
        due("no third", x.nets(2), NONE);
        x.undo();
        due("three again", x.nets(NONE), 3);
        x.net(6, true);
        due("two with that", x.nets(NONE), 2);
        x.wall(4, 3);
        due("a WALL of 3 is broken, and no NET can be there", x.nets(NONE), NONE);
        x.undo();
        x.wall(4, 4);
        due("a WALL of 4 is not", x.nets(NONE), 1);
        x.dig(7, 4);
        due("nor need there be one in 7", x.nets(NONE), 0);
        x.spring(0);
        due("none needed", x.nets(0), NONE);
        Check.tell(x, text);
        due("the same SLOPE anew", x.nets(NONE), 3);
        byte[] image = Check.image(x);
        x.take(0);
        due("two", x.nets(NONE), 2);
        Check.feed(x, image);
        x.on();
        due("that image", x.nets(NONE), 3);
        says(31, "NONE when 3 do not do, there are none such, or no field.");
        due("3 do not do", Check.of(text + "stone g weight 1 rest 0 at 1 0;house h worth 1 at 1 2;").nets(NONE), NONE);
        due("3 do not do", Check.of(text + "stone g weight 1 rest 0 at 1 0;house h worth 1 at 1 2;").nets(0), NONE);
        for (int bad : new int[] {-2, 3, 4, MOST, LEAST}) {
            due("k " + bad, x.nets(bad), NONE);
        }
        due("no field", new BoulderDowry().nets(NONE), NONE);
        due("no field", new BoulderDowry().nets(0), NONE);
        due("a field alone", Check.of("field 2 2;").nets(NONE), 0);
        due("its first", Check.of("field 2 2;").nets(0), NONE);
    }

    private static void dowry() {
        says(32, "A DOWRY, n SPRINGS (0 .. 3): floor(1000 times WORTH / S to the n) (what 0),");
        String s = "stone s weight 7 rest 12 at 0 0;rough 99 at 0 2;";
        BoulderDowry x = stair(s + "thaw 3 odds 1;thaw 2 odds 2;");
        int[] want = {0, 2333, 3888, 4925};
        for (int n = 0; n <= 3; n++) {
            due("n " + n, x.dowry(0, 1, n, 0), want[n]);
            due("handed over, n " + n, x.dowry(0, 0, n, 0), 7000);
        }
        due("nothing is done", x.stone(0, 2) + x.stone(0, 4) + x.has(11), 0);
        says(32, "1 when handing over now is no less than waiting (and it lies on that land, or n is 0), else 0 (what 1).");
        due("it lies there", x.dowry(0, 0, 3, 1), 1);
        due("it does not, n 1", x.dowry(0, 1, 1, 1), 0);
        due("it does not, n 0", x.dowry(0, 1, 0, 1), 1);
        x = stair("owner c;stone s weight 7 rest 9999 at 0 0;thaw 0 odds 1;");
        due("no less, for both are 0, but it does not lie there", x.dowry(0, 2, 2, 1), 0);
        due("as much by waiting", x.dowry(0, 0, 2, 1), 1);
        says(32, "NONE when there are none such, it is TAKEN, n above 0 without THAWS, or for others.");
        for (int bad : new int[] {-1, 1, 10, MOST, LEAST}) {
            due("stone " + bad, x.dowry(bad, 0, 1, 0), NONE);
        }
        for (int bad : new int[] {-1, 3, 6, MOST, LEAST}) {
            due("owner " + bad, x.dowry(0, bad, 1, 0), NONE);
        }
        for (int bad : new int[] {-1, 4, MOST, LEAST}) {
            due("n " + bad, x.dowry(0, 0, bad, 0), NONE);
            due("n " + bad, x.dowry(0, 0, bad, 1), NONE);
        }
        for (int bad : new int[] {-1, 2, MOST, LEAST}) {
            due("what " + bad, x.dowry(0, 0, 1, bad), NONE);
        }
        x.take(0);
        due("TAKEN", x.dowry(0, 0, 0, 0), NONE);
        due("TAKEN", x.dowry(0, 0, 0, 1), NONE);
        x = stair(s);
        due("n 0 without THAWS", x.dowry(0, 0, 0, 0), 7000);
        due("n 0 without THAWS", x.dowry(0, 1, 0, 0), 0);
        due("n 0 without THAWS", x.dowry(0, 1, 0, 1), 1);
        for (int n = 1; n <= 3; n++) {
            due("n " + n + " without THAWS", x.dowry(0, 0, n, 0), NONE);
            due("n " + n + " without THAWS", x.dowry(0, 0, n, 1), NONE);
        }
    }

    private static void whence() {
        says(33, "WHENCE a STONE has come: how many cells (k NONE), the k-th by places.");
        BoulderDowry x = stair("stone s weight 3 rest 9999 at 0 4;stone t weight 1 rest 0 at 0 0;stone u weight 1 rest 0 at 1 0;");
        int[] want = {2, 3, 4, 5, 6, 7, 9};
        due("how many", x.whence(0, NONE), want.length);
        for (int k = 0; k < want.length; k++) {
            due("whence(0, " + k + ")", x.whence(0, k), want[k]);
        }
        due("from none", x.whence(1, NONE), 0);
        due("the first of none", x.whence(1, 0), NONE);
        due("nothing is done", x.stone(0, 2) + x.stone(0, 4) + x.has(11), 8);
        says(33, "NONE when there is none such, or it is TAKEN.");
        for (int bad : new int[] {-2, 7, 60, MOST, LEAST}) {
            due("k " + bad, x.whence(0, bad), NONE);
        }
        for (int bad : new int[] {-1, 3, 10, MOST, LEAST}) {
            due("stone " + bad, x.whence(bad, NONE), NONE);
        }
        x.take(0);
        due("TAKEN", x.whence(0, NONE), NONE);
        due("TAKEN", x.whence(0, 0), NONE);
    }

    private static void leans() {
        says(34, "Whether a STONE LEANS on another one: 1, 0;");
        BoulderDowry x = stair("stone s weight 1 rest 0 at 0 0;stone t weight 1 rest 0 at 0 1;stone u weight 1 rest 0 at 0 2;stone v weight 1 rest 0 at 0 4;");
        due("on the next", x.leans(0, 1), 1);
        due("on the one behind that", x.leans(0, 2), 1);
        due("not on one with a cell between", x.leans(0, 3), 0);
        due("not upward", x.leans(1, 0), 0);
        due("not on itself", x.leans(0, 0), 0);
        says(34, "NONE when there are none such.");
        for (int bad : new int[] {-1, 4, 10, MOST, LEAST}) {
            due("first " + bad, x.leans(bad, 0), NONE);
            due("second " + bad, x.leans(0, bad), NONE);
            due("both " + bad, x.leans(bad, bad), NONE);
        }
        says(34, "(One that is TAKEN leans on none.)");
        x.take(1);
        due("TAKEN", x.leans(1, 2), 0);
        due("none leans on it", x.leans(0, 1), 0);
        due("nor on those below", x.leans(0, 2), 0);
        x.take(2);
        due("both TAKEN", x.leans(1, 2), 0);
    }

    private static void quarry() {
        says(35, "A QUARRY: how many orders (k NONE), the k-th STONE in the first such order (by numbers).");
        BoulderDowry x = stair("stone t weight 1 rest 5 at 0 1;stone s weight 1 rest 5 at 0 0;stone u weight 1 rest 50 at 0 2;stone v weight 1 rest 5 at 0 4;");
        due("t behind s, u behind t, v anywhere", x.quarry(15, NONE), 4);
        int[] want = {1, 0, 2, 3, NONE};
        for (int k = 0; k < want.length; k++) {
            due("quarry(15, " + k + ")", x.quarry(15, k), want[k]);
        }
        BoulderDowry y = stair("stone u weight 1 rest 50 at 0 2;stone t weight 1 rest 5 at 0 1;stone s weight 1 rest 5 at 0 0;");
        due("told from below", y.quarry(7, NONE), 1);
        for (int k = 0; k < 3; k++) {
            due("from above all the same: " + k, y.quarry(7, k), 2 - k);
        }
        due("one", x.quarry(8, NONE), 1);
        due("itself", x.quarry(8, 0), 3);
        due("two", x.quarry(10, NONE), 2);
        due("by numbers", x.quarry(10, 0), 1);
        due("nothing is done", x.has(9) - x.has(11), 4);
        says(35, "NONE when something can't be;");
        for (int bad : new int[] {0, 16, 17, -1, -2, 1 << 30, MOST, LEAST}) {
            due("stones " + bad, x.quarry(bad, NONE), NONE);
            due("stones " + bad, x.quarry(bad, 0), NONE);
        }
        x.take(3);
        due("TAKEN", x.quarry(8, NONE), NONE);
        due("one of them is TAKEN", x.quarry(10, 0), NONE);
        x.undo();
        says(35, "for a k when there is none such.");
        for (int bad : new int[] {-2, 4, 6, MOST, LEAST}) {
            due("k " + bad, x.quarry(15, bad), NONE);
        }
        due("no second of one", x.quarry(8, 1), NONE);
        due("no order", x.quarry(1, NONE), 0);
        due("so no first STONE", x.quarry(1, 0), NONE);
    }

    private static void ropes() {
        says(36, "Of ROPES: 0 the STONE, 1 its LOAD, 2 all strengths together, 3 those without each of which alone they do not HOLD, as bits, "
                + "4 how many pairs there are without both of which they do not HOLD, 5 whether they HOLD.");
        BoulderDowry x = stair("stone s weight 5 rest 0 at 0 1;stone t weight 9 rest 0 at 0 0;rope 1;rope 10;rope 79;rope 2;rope 8;");
        int[] want = {1, 90, 100, 4, 7, 1};
        for (int i = 0; i < 6; i++) {
            due("ropes(" + i + ")", x.ropes(i), want[i]);
        }
        x = stair("stone t weight 9 rest 0 at 0 0;rope 30;rope 30;rope 30;");
        int[] just = {0, 90, 90, 7, 3, 1};
        for (int i = 0; i < 6; i++) {
            due("just: ropes(" + i + ")", x.ropes(i), just[i]);
        }
        x = stair("stone t weight 9 rest 0 at 0 0;rope 30;rope 30;");
        int[] less = {0, 90, 60, 3, 1, 0};
        for (int i = 0; i < 6; i++) {
            due("too little: ropes(" + i + ")", x.ropes(i), less[i]);
        }
        x = stair("stone t weight 9 rest 0 at 0 4;" + "rope 9999;".repeat(9));
        int[] nothing = {0, 0, 89991, 0, 0, 1};
        for (int i = 0; i < 6; i++) {
            due("no LOAD: ropes(" + i + ")", x.ropes(i), nothing[i]);
        }
        x = stair("stone t weight 999 rest 0 at 1 4;" + "rope 8880;".repeat(9));
        int[] nine = {0, 79920, 79920, 511, 36, 1};
        for (int i = 0; i < 6; i++) {
            due("all nine: ropes(" + i + ")", x.ropes(i), nine[i]);
        }
        x = stair("stone t weight 1 rest 0 at 0 4;");
        int[] bare = {0, 0, 0, 0, 0, 1};
        for (int i = 0; i < 6; i++) {
            due("no ROPE: ropes(" + i + ")", x.ropes(i), bare[i]);
        }
        says(36, "NONE without a STONE, or for others.");
        for (int bad : new int[] {-1, 6, MOST, LEAST}) {
            due("what " + bad, x.ropes(bad), NONE);
        }
        x.take(0);
        for (int i = 0; i < 6; i++) {
            due("none that is not TAKEN: " + i, x.ropes(i), NONE);
            due("no STONE: " + i, stair("rope 5;").ropes(i), NONE);
        }
    }
}
