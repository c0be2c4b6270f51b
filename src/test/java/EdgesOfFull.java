/** A slope of as much as a text may tell, of each kind: what is last is asked as well as what is first. */
final class EdgesOfFull {
    private static final int NONE = BoulderDowry.NONE;

    private EdgesOfFull() {
    }

    private static void due(String what, long got, long want) {
        Check.due(what, got, want);
    }

    /**
     * Ten columns, each 10 lower from row to row. A stone is at the top of each, by 10 heavier to start than the one
     * left of it; eight columns have two walls and a house.
     */
    private static String text() {
        StringBuilder text = new StringBuilder("field 10 6;");
        for (int y = 0; y < 6; y++) {
            text.append("row").append((" " + (90 - 10 * y)).repeat(10)).append(";owner ").append((char) ('a' + y)).append(";land ")
                    .append((char) ('a' + y)).append(" at 0 ").append(y).append(" to 9 ").append(y).append(';');
        }
        for (int i = 0; i < 10; i++) {
            text.append("stone s" + (char) ('a' + i) + " weight " + (i == 9 ? 999 : 1) + " rest " + (10 + i) + " at " + i + " 0;");
        }
        for (int i = 0; i < 8; i++) {
            text.append("house h" + (char) ('a' + i) + " worth " + (i + 1) + " at " + i + " 5;wall 5 at " + i + " 2;wall 5 at " + i + " 3;");
            text.append("due " + (i + 1) + " when worth=" + (i + 1) + " and wall=0;");
        }
        int[] strength = {1, 3, 5, 7, 9, 9999};
        for (int i = 0; i < 6; i++) {
            text.append("thaw " + strength[i] + " odds " + (i + 1) + ";");
        }
        return text.append("rope 1110;".repeat(9)).toString();
    }

    static void all() {
        Says.says("I", "A SLOPE is a text: { STATEMENT ; } (100 at most):");
        BoulderDowry x = new BoulderDowry();
        due("statements", Check.tell(x, text()), 1 + 18 + 10 + 32 + 6 + 9);
        int[] has = {6, 10, 8, 16, 6, 9, 8, 10, 6, 10, 0, 0, 0, 1};
        for (int i = 0; i < has.length; i++) {
            due("full: has(" + i + ")", x.has(i), has[i]);
        }
        for (int o = 0; o < 6; o++) {
            due("full: cells of owner " + o, x.owner(o, 0), 10);
        }
        due("full: STONES of the first", x.owner(0, 1), 10);
        due("full: their weight", x.owner(0, 2), 1008);
        due("full: HOUSES of the last", x.owner(5, 3), 8);
        due("full: the last NAME", x.letter(1, 9, 1), 10);
        due("full: the last HOUSE", x.house(7, 1), 57);
        due("full: the last STONE", x.stone(9, 6), 10);
        due("full: the last cell", x.cell(59, 2), 5);
        thaws(x);
        searches(x);
        acts(x);
    }

    private static void thaws(BoulderDowry x) {
        int[] rolls = {1, 3, 5, 7, 9, 10};
        for (int t = 0; t < 6; t++) {
            int ruined = Math.min(8, rolls[t]);
            due("full: ROLLS of THAW " + t, x.thaw(t, 4), rolls[t]);
            due("full: HOUSES of THAW " + t, x.thaw(t, 2), ruined);
            due("full: worth of THAW " + t, x.thaw(t, 3), ruined * (ruined + 1) / 2);
        }
        due("full: THE WORST", x.worst(0), 4);
        due("full: of worth", x.worst(1), 36);
        due("full: the last STONE's ODDS of the last cell", x.lies(9, 59), 6000 / 21);
        due("full: of where it is", x.lies(9, 9), 15000 / 21);
        due("full: the first STONE's", x.lies(0, 50), 1000);
        due("full: the last HOUSE's", x.hit(7), 11000 / 21);
        due("full: the first HOUSE's", x.hit(0), 1000);
        due("full: a way", x.path(7, 99999, NONE), 5);
        due("full: WALLS", x.roll(7, 99999, 2), 2);
        due("full: SPEED", x.roll(7, 99999, 5), 40);
    }

    private static void searches(BoulderDowry x) {
        due("full: men", x.men(9, 5), 1);
        due("full: a CREW", x.crew(7 << 7, 5, NONE), 3);
        due("full: its last", x.crew(7 << 7, 5, 12), 9);
        due("full: 3 NETS do not do", x.nets(NONE), NONE);
        due("full: a DOWRY", x.dowry(9, 5, 3, 0), 634932);
        due("full: from none", x.whence(9, NONE), 0);
        due("full: a QUARRY", x.quarry(63 << 4, NONE), 720);
        due("full: its last", x.quarry(63 << 4, 5), 9);
        int[] ropes = {9, 9990, 9990, 511, 36, 1};
        for (int i = 0; i < 6; i++) {
            due("full: ropes(" + i + ")", x.ropes(i), ropes[i]);
        }
        due("full: no STONE leans", x.leans(0, 9), 0);
        due("full: an image", x.image(), 259);
        due("full: its last STONE", x.octet(9), 10);
    }

    private static void acts(BoulderDowry x) {
        byte[] image = Check.image(x);
        due("full: a SPRING", x.spring(9999), 10);
        due("full: DUES of HOUSES, but none of WALLS", x.has(12), 8);
        due("full: the last of them", x.due(7, 2), 8);
        due("full: received", x.owner(5, 4), 36);
        due("full: no WALLS", x.has(3), 0);
        due("full: whence the last came", x.whence(9, NONE), 5);
        due("full: the first of these", x.whence(9, 0), 9);
        due("full: undone", x.undo() ? 1 : 0, 1);
        for (int i = 0; i < 8; i++) {
            x.take(i);
        }
        due("full: none needed", x.nets(NONE), 0);
        x.undo();
        due("full: one for the last HOUSE", x.nets(NONE), 1);
        due("full: in the first cell of its way", x.nets(0), 17);
        for (int i = 0; i < 60; i++) {
            x.net(i, true);
        }
        due("full: a NET in each cell", x.has(10), 60);
        due("full: a WALL where there is a NET", x.wall(59, 1) ? 1 : 0, 1);
        due("full: a DITCH there", x.dig(59, 99), 99);
        byte[] last = Check.image(x);
        Check.feed(x, image);
        due("full: an image put on", x.on() ? 1 : 0, 1);
        due("full: all STONES", x.has(9), 10);
        due("full: all WALLS", x.has(3), 16);
        Check.feed(x, last);
        due("full: the other one", x.on() ? 1 : 0, 1);
        due("full: its NETS", x.has(10), 60);
        due("full: its last WALL", x.cell(59, 4), 1);
    }
}
