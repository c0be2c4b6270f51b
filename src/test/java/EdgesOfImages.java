/** Promises 37 to 40, sentence by sentence: images and refusals. */
final class EdgesOfImages {
    private static final int NONE = BoulderDowry.NONE;
    private static final int MOST = Integer.MAX_VALUE;
    private static final int LEAST = Integer.MIN_VALUE;
    /** Bytes: stones at 0 and 1, houses at 2 and 3, cell i from 4 + 4 i on, the last one at 28. */
    private static final String SMALL = "field 2 3;stone s weight 1 rest 0 at 0 0;stone t weight 1 rest 0 at 1 0;house h worth 1 at 0 1;house i worth 1 at 1 2;"
            + "wall 7 at 1 1;rough 5 at 0 2;";
    private static final int CELLS = 4;

    private EdgesOfImages() {
    }

    static void all() {
        image();
        octet();
        on();
        onAnew();
        lengths();
        places();
        wallsAndHouses();
        ones();
        status();
    }

    private static void says(int promise, String words) {
        Says.says(promise, words);
    }

    private static void due(String what, long got, long want) {
        Check.due(what, got, want);
    }

    private static void due(String what, boolean got, boolean want) {
        Check.due(what, got, want);
    }

    private static void image() {
        says(37, "AN IMAGE is written: how many bytes.");
        due("no field", new BoulderDowry().image(), 1);
        due("four cells", Check.of("field 2 2;").image(), 17);
        due("two STONES, two HOUSES, six cells", Check.of(SMALL).image(), 29);
        StringBuilder text = new StringBuilder("field 10 6;");
        for (int i = 0; i < 10; i++) {
            text.append("stone s" + (char) ('a' + i) + " weight 1 rest 0 at " + i + " 0;");
        }
        for (int i = 0; i < 8; i++) {
            text.append("house h" + (char) ('a' + i) + " worth 1 at " + i + " 1;");
        }
        BoulderDowry x = Check.of(text.toString());
        due("the most", x.image(), 259);
        due("the last STONE", x.octet(9), 10);
        x.net(59, true);
        x.image();
        due("the last NET", x.octet(257), 1);
        byte[] bytes = Check.image(x);
        x.net(59, false);
        x.take(9);
        Check.feed(x, bytes);
        due("put on", x.on(), true);
        due("the last NET", x.cell(59, 8), 1);
        due("the last STONE", x.stone(9, 2), 9);
    }

    private static void octet() {
        says(38, "Byte k of the latest image();");
        BoulderDowry x = Check.of(SMALL);
        x.image();
        due("the first", x.octet(0), 1);
        due("the last but one", x.octet(27), 0);
        x.take(0);
        due("not as it is now", x.octet(0), 1);
        x.image();
        due("the latest", x.octet(0), 0);
        Check.tell(x, "field 2 2;");
        due("another SLOPE does not change it", x.octet(28) >= 0, true);
        x.image();
        due("a shorter one", x.octet(17), NONE);
        says(38, "NONE when there is none such.");
        for (int bad : new int[] {-1, 17, 28, 259, MOST, LEAST}) {
            due("k " + bad, x.octet(bad), NONE);
        }
        due("ahead of any image", new BoulderDowry().octet(0), NONE);
    }

    private static void on() {
        says(39, "The tape (it goes) is AN IMAGE of this SLOPE: true, all is as it tells");
        BoulderDowry x = Texts.stair("stone s weight 2 rest 0 at 0 0;stone t weight 2 rest 0 at 1 1;house h worth 7 at 0 3;wall 11 at 0 1;thaw 0 odds 1;");
        byte[] start = Check.image(x);
        x.spring(0);
        x.net(9, true);
        x.dig(9, 99);
        x.wall(7, 9999);
        x.take(0);
        byte[] end = Check.image(x);
        Check.feed(x, start);
        due("the first image", x.on(), true);
        due("the tape went", x.end(1), false);
        int[][] cells = {{0, 3, 0}, {3, 3, 1}, {2, 4, 11}, {7, 4, 0}, {9, 1, 0}, {9, 8, 0}};
        for (int[] c : cells) {
            due("cell(" + c[0] + ", " + c[1] + ")", x.cell(c[0], c[1]), c[2]);
        }
        due("a whole HOUSE", x.house(0, 2), 0);
        due("no NETS", x.has(10), 0);
        Check.feed(x, end);
        due("the last image", x.on(), true);
        int[][] then = {{0, 3, NONE}, {3, 3, NONE}, {2, 4, 0}, {7, 4, 9999}, {9, 1, 99}, {9, 8, 1}};
        for (int[] c : then) {
            due("then cell(" + c[0] + ", " + c[1] + ")", x.cell(c[0], c[1]), c[2]);
        }
        due("TAKEN", x.stone(0, 2), NONE);
        due("a ruin", x.house(0, 2), 1);
        byte[] same = Check.image(x);
        for (int i = 0; i < end.length; i++) {
            due("byte " + i, same[i], end[i]);
        }
        BoulderDowry none = new BoulderDowry();
        Check.feed(none, new byte[] {83});
        due("no field", none.on(), true);
    }

    private static void onAnew() {
        says(39, "(no ROLLS, DUES so far, no ACT can be undone);");
        BoulderDowry x = Texts.stair("stone s weight 2 rest 0 at 0 0;house h worth 7 at 0 3;due 5 when all;");
        x.seed(9);
        x.lever(0, 1);
        x.net(0, true);
        Check.feed(x, Check.image(x));
        due("on", x.on(), true);
        due("where it came", x.stone(0, 2), 6);
        due("no ROLLS", x.stone(0, 4), 0);
        due("no cells", x.stone(0, 5), 0);
        due("no DUES", x.has(12), 0);
        due("no DUE told", x.due(0, 0), NONE);
        due("none received", x.owner(1, 4), 0);
        due("none paid", x.owner(0, 4), 0);
        due("no ACT", x.has(11), 0);
        due("none can be undone", x.undo(), false);
        due("the seed stays", x.has(13), 9);
        due("the NET is there", x.has(10), 1);
    }

    private static BoulderDowry spoiled;
    private static byte[] image;

    private static byte[] with(byte[] bytes, int at, int octet) {
        byte[] all = bytes.clone();
        all[at] = (byte) octet;
        return all;
    }

    /** Puts on these bytes, behind which the byte that they ask for is put. */
    private static void put(String what, byte[] bytes, boolean want) {
        int refused = spoiled.status(5);
        byte[] before = Check.image(spoiled);
        Check.feed(spoiled, Check.checked(bytes.clone()));
        due(what, spoiled.on(), want);
        due(what + ": refused", spoiled.status(5) - refused, want ? 0 : 1);
        due(what + ": the tape went", spoiled.end(1), false);
        byte[] after = Check.image(spoiled);
        for (int i = 0; i < after.length - 1; i++) {
            due(what + ": byte " + i, after[i], want ? bytes[i] : before[i]);
        }
    }

    private static void begin() {
        spoiled = Check.of(SMALL);
        image = Check.image(spoiled);
    }

    private static void lengths() {
        begin();
        says(39, "false, refused (5), all staying, if it is none such:");
        BoulderDowry x = spoiled;
        x.net(2, true);
        x.lever(0, 1);
        byte[] wrong = image.clone();
        wrong[28]++;
        Check.feed(x, wrong);
        due("the last byte is another one", x.on(), false);
        due("refused", x.status(5), 1);
        due("the tape went", x.end(1), false);
        due("the ACTS stay", x.has(11), 2);
        due("the NET stays", x.has(10), 1);
        due("an empty tape", x.on(), false);
        due("refused", x.status(5), 2);
        put("as it was", image, true);
        says(39, "with as many STONES, HOUSES, cells;");
        put("a byte more", java.util.Arrays.copyOf(image, 30), false);
        put("a byte less", java.util.Arrays.copyOf(image, 28), false);
        put("a cell more", java.util.Arrays.copyOf(image, 33), false);
        put("a cell less", java.util.Arrays.copyOf(image, 25), false);
        put("one byte", new byte[1], false);
        Check.feed(x, Check.image(Check.of("field 2 3;stone s weight 1 rest 0 at 0 0;house h worth 1 at 0 1;")));
        due("of another SLOPE", x.on(), false);
    }

    private static void places() {
        begin();
        says(39, "places that there are, no two STONES in one;");
        for (int place = 0; place <= 255; place++) {
            boolean free = place != 1 && place != 2 && place != 3 && place != 5;
            put("STONE 0 in " + place, with(image, 0, place + 1), place < 6 && free || place == 255);
        }
        put("STONE 1 TAKEN", with(image, 1, 0), true);
        put("both TAKEN", with(with(image, 0, 0), 1, 0), true);
        put("both in 0", with(image, 1, 1), false);
        put("both in 4", with(with(image, 0, 5), 1, 5), false);
        put("each in the other one's place", with(with(image, 0, 2), 1, 1), true);
        says(39, "a STONE in no cell with a whole HOUSE or a WALL;");
        put("in a whole HOUSE", with(image, 0, 3), false);
        put("in the other whole HOUSE", with(image, 1, 6), false);
        put("in a ruin", with(with(image, 2, 1), 0, 3), true);
        put("in the other ruin", with(with(image, 3, 1), 1, 6), true);
        put("in a WALL", with(image, 0, 4), false);
        put("where a WALL was", with(with(image, CELLS + 4 * 3 + 1, 0), 0, 4), true);
        put("a WALL where a STONE is", with(image, CELLS + 1, 1), false);
        put("a WALL of 256 where a STONE is", with(image, CELLS, 1), false);
    }

    private static void wallsAndHouses() {
        begin();
        says(39, "a WALL in no cell with a whole HOUSE, holding 9999 at most;");
        put("in a whole HOUSE", with(image, CELLS + 4 * 2 + 1, 1), false);
        put("of 256 in a whole HOUSE", with(image, CELLS + 4 * 2, 1), false);
        put("in the other whole HOUSE", with(image, CELLS + 4 * 5 + 1, 1), false);
        put("in a ruin", with(with(image, 2, 1), CELLS + 4 * 2 + 1, 1), true);
        put("in the other ruin", with(with(image, 3, 1), CELLS + 4 * 5 + 1, 1), true);
        int at = CELLS + 4 * 4;
        put("9999", with(with(image, at, 39), at + 1, 15), true);
        put("10000", with(with(image, at, 39), at + 1, 16), false);
        put("65535", with(with(image, at, 255), at + 1, 255), false);
        put("40 times 256", with(image, at, 40), false);
        put("255", with(image, at + 1, 255), true);
        put("256", with(image, at, 1), true);
        says(39, "roughness 0 .. 99;");
        for (int rough = 0; rough <= 255; rough++) {
            put("roughness " + rough, with(image, at + 2, rough), rough <= 99);
        }
        put("roughness 99 of the last cell", with(image, CELLS + 4 * 5 + 2, 99), true);
        put("roughness 100 of the last cell", with(image, CELLS + 4 * 5 + 2, 100), false);
    }

    private static void ones() {
        begin();
        says(39, "0 or 1 else.");
        for (int octet = 0; octet <= 255; octet++) {
            put("HOUSE " + octet, with(image, 2, octet), octet <= 1);
            put("NET " + octet, with(image, CELLS + 3, octet), octet <= 1);
        }
        begin();
        put("the last HOUSE", with(image, 3, 2), false);
        put("the last NET", with(image, CELLS + 4 * 5 + 3, 2), false);
        put("all of them 1", with(with(with(image, 2, 1), 3, 1), CELLS + 4 * 5 + 3, 1), true);
    }

    private static void status() {
        says(40, "How many were refused: 0 feed(), end(); 1 slope(); 2 lever(), spring(), goOn(); 3 net(), wall(), dig(), take(); 4 undo(); 5 seed(), on().");
        BoulderDowry x = new BoulderDowry();
        int[] want = new int[6];
        for (int i = 0; i < 6; i++) {
            due("none yet: " + i, x.status(i), 0);
        }
        for (int i = 0; i < 80; i++) {
            x.feed(0, 0, 0, 0, 0);
        }
        for (int call = 0; call < 13; call++) {
            int kind = refused(x, call);
            want[kind]++;
            for (int i = 0; i < 6; i++) {
                due("behind call " + call + ": " + i, x.status(i), want[i]);
            }
        }
        Check.tell(x, SMALL);
        x.lever(0, 1);
        x.undo();
        for (int i = 0; i < 6; i++) {
            due("no other call changes it: " + i, x.status(i), want[i]);
        }
        x.lever(9, 9);
        x.path(9, 9, 9);
        x.crew(0, 0, 0);
        due("questions are not counted", x.status(2), want[2] + 1);
        says(40, "NONE for others.");
        for (int bad : new int[] {-1, 6, MOST, LEAST}) {
            due("what " + bad, x.status(bad), NONE);
        }
    }

    /** Does what must be refused; answers under which number it is counted. */
    private static int refused(BoulderDowry x, int call) {
        switch (call) {
            case 0:
                x.feed(0, 0, 0, 0, 0);
                return 0;
            case 1:
                x.end(1601);
                return 0;
            case 2:
                x.slope();
                return 1;
            case 3:
                x.lever(0, 1);
                return 2;
            case 4:
                x.spring(-1);
                return 2;
            case 5:
                x.goOn(1);
                return 2;
            case 6:
                x.net(0, true);
                return 3;
            case 7:
                x.wall(0, 1);
                return 3;
            case 8:
                x.dig(0, 1);
                return 3;
            case 9:
                x.take(0);
                return 3;
            case 10:
                x.undo();
                return 4;
            case 11:
                x.seed(-1);
                return 5;
            default:
                x.on();
                return 5;
        }
    }
}
