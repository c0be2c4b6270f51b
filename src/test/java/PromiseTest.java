/** Each promise by hand: what it says, the edges that it names, and inputs that can't be. */
public final class PromiseTest {
    private static final int NONE = BoulderDowry.NONE;
    private static final int NOTHING = BoulderDowry.NOTHING;
    private static final int FAR = Integer.MAX_VALUE;
    private static final int LOW = Integer.MIN_VALUE;

    private static final String STAIR = Texts.STAIR;

    private static void due(String what, long got, long want) {
        Check.due(what, got, want);
    }

    private static void due(String what, boolean got, boolean want) {
        Check.due(what, got, want);
    }

    private static BoulderDowry stair(String more) {
        return Texts.stair(more);
    }

    private static void newObject() {
        BoulderDowry x = new BoulderDowry();
        for (int i = 0; i < 13; i++) {
            due("1: has(" + i + ")", x.has(i), 0);
        }
        due("1: seed", x.has(13), 1);
        for (int i = 0; i < 6; i++) {
            due("1: status(" + i + ")", x.status(i), 0);
        }
        due("1: image", x.image(), 1);
        due("1: octet", x.octet(0), 83);
        due("1: law", x.law(1, 2, 3, 0, 4), 0);
        due("1: cell", x.cell(0, 0), NONE);
        due("1: NONE", NONE, -1);
        due("1: NOTHING", NOTHING, -1000000000);
    }

    private static void tape() {
        BoulderDowry x = new BoulderDowry();
        for (int i = 1; i <= 80; i++) {
            due("2: feed", x.feed(0, 0, 0, 0, 0), 20 * i);
        }
        due("2: feed too much", x.feed(0, 0, 0, 0, 0), NONE);
        due("2: refused", x.status(0), 1);
        due("3: end", x.end(1581), true);
        due("2: feed still too much", x.feed(0, 0, 0, 0, 0), NONE);
        due("3: end too far", x.end(1582), false);
        due("3: end below 0", x.end(-1), false);
        due("3: end far", x.end(FAR), false);
        due("3: refused", x.status(0), 5);
        due("3: end as it is", x.end(1581), true);
        due("3: end 1580", x.end(1580), true);
        due("2: feed fits", x.feed(0, 0, 0, 0, 0), 1600);
        due("3: end 0", x.end(0), true);
        due("2: feed", x.feed(0x6669656c, 0x64203220, 0x333b6f77, 0x6e657220, 0x65783b20), 20);
        due("4: slope", x.slope(), 2);
        due("2: byte order", x.letter(0, 0, 1), 24);
        due("4: the tape goes", x.feed(-1, -1, -1, -1, -1), 20);
        due("4: bytes 255", x.slope(), NONE);
        due("5: fault", x.fault(0), 1);
        due("4: the tape goes with a fault too", x.end(1), false);
    }

    private static void slopes() {
        BoulderDowry x = stair("stone s weight 2 rest 0 at 0 0;house h worth 7 at 0 3;due 5 when all;thaw 1 odds 1;");
        due("4: seed", x.seed(77), true);
        due("4: roll", x.lever(0, 1), 3);
        due("4: net", x.net(9, true), true);
        due("4: due told", x.has(12), 1);
        due("4: faulty slope", Check.tell(x, "field 2 2;row 1;"), NONE);
        due("5: fault", x.fault(0), 1);
        due("5: place", x.fault(1), 15);
        due("5: what", x.fault(2), NONE);
        due("5: what", x.fault(-1), NONE);
        due("4: all stays", x.stone(0, 2), 6);
        due("4: due stays", x.has(12), 1);
        due("4: acts stay", x.has(11), 2);
        due("4: new slope", Check.tell(x, STAIR + "stone s weight 2 rest 0 at 0 0;"), 11);
        due("5: no fault", x.fault(0), 0);
        due("5: no place", x.fault(1), NONE);
        due("4: place anew", x.stone(0, 2), 0);
        due("4: no rolls", x.stone(0, 4), 0);
        due("4: no cells", x.stone(0, 5), 0);
        due("4: no dues", x.has(12), 0);
        due("4: no balance", x.owner(0, 4), 0);
        due("4: no nets", x.has(10), 0);
        due("4: no undo", x.undo(), false);
        due("4: seed stays", x.has(13), 77);
        due("4: no thaws", x.has(4), 0);
        due("4: no laws", x.law(1, 1, 1, 1, 1), 0);
        due("4: refused", x.status(1), 1);
    }

    private static void lastCounts() {
        BoulderDowry x = Check.of("field 3 3;row 9 8 7;row 6 5 4;rough 3 at 1 1;rough 8 at 1 1;owner a;owner b;"
                + "land a at 0 0 to 2 2;land b at 1 1 to 2 2;land a at 2 2 to 2 2;");
        due("4: last roughness counts", x.cell(4, 1), 8);
        due("4: roughness 0 without", x.cell(3, 1), 0);
        due("4: height 0 without a row", x.cell(8, 0), 0);
        due("4: last land counts", x.cell(4, 2), 1);
        due("4: last land counts", x.cell(8, 2), 0);
        due("4: first land elsewhere", x.cell(6, 2), 0);
        due("4: second land below", x.cell(7, 2), 1);
        due("11: cells", x.owner(0, 0), 6);
        due("11: cells", x.owner(1, 0), 3);
    }

    private static void counts() {
        BoulderDowry x = stair("stone s weight 2 rest 0 at 0 0;stone t weight 9 rest 0 at 1 4;house h worth 7 at 0 3;wall 5 at 1 0;"
                + "thaw 1 odds 1;rope 4;rope 5;due 5 when all;");
        int[] want = {2, 2, 1, 1, 1, 2, 1, 2, 5, 2, 0, 0, 0, 1};
        for (int i = 0; i < want.length; i++) {
            due("6: has(" + i + ")", x.has(i), want[i]);
        }
        due("6: has(14)", x.has(14), NONE);
        due("6: has(-1)", x.has(-1), NONE);
        x.take(1);
        x.net(3, true);
        x.net(5, true);
        x.wall(3, 44);
        due("6: walls now", x.has(3), 2);
        due("6: stones not taken", x.has(9), 1);
        due("6: stones all the same", x.has(1), 2);
        due("6: nets", x.has(10), 2);
        due("6: acts", x.has(11), 4);
    }

    private static void letters() {
        BoulderDowry x = stair("stone zabcde weight 2 rest 0 at 0 0;house y worth 7 at 0 3;");
        int[] want = {26, 1, 2, 3, 4, 5};
        for (int k = 0; k < 6; k++) {
            due("7: stone's", x.letter(1, 0, k), want[k]);
            due("7: house's", x.letter(2, 0, k), k == 0 ? 25 : 0);
        }
        due("7: owner's", x.letter(0, 1, 1), 15);
        due("7: k 6", x.letter(1, 0, 6), NONE);
        due("7: k -1", x.letter(1, 0, -1), NONE);
        due("7: stone 1", x.letter(1, 1, 0), NONE);
        due("7: stone -1", x.letter(1, -1, 0), NONE);
        due("7: owner 2", x.letter(0, 2, 0), NONE);
        due("7: house 1", x.letter(2, 1, 0), NONE);
        due("7: kind 3", x.letter(3, 0, 0), NONE);
        due("7: kind -1", x.letter(-1, 0, 0), NONE);
        due("7: far", x.letter(FAR, FAR, FAR), NONE);
    }

    private static void cellsStonesHouses() {
        BoulderDowry x = Check.of("field 3 3;row 5 3 5;row 3 5 3;row 5 3 9;owner o;land o at 2 2 to 2 2;stone s weight 3 rest 2 at 1 1;"
                + "stone t weight 4 rest 9 at 2 2;stone u weight 5 rest 1 at 2 1;house h worth 6 at 0 0;wall 7 at 0 2;rough 8 at 1 2;");
        int[] middle = {5, 0, NONE, 0, 0, NONE, 1, 2, 0, 1};
        for (int i = 0; i < middle.length; i++) {
            due("8: cell(4, " + i + "), of like ones the first, above", x.cell(4, i), middle[i]);
        }
        due("8: right ahead of below", x.cell(0, 6), 1);
        due("8: above ahead of left", x.cell(8, 6), 5);
        due("8: a ground has no next", x.cell(5, 6), NONE);
        due("8: a ground has no drop", x.cell(5, 7), 0);
        due("8: a ground's end is itself", x.cell(5, 9), 5);
        due("8: roughness", x.cell(7, 1), 8);
        due("8: owner", x.cell(8, 2), 0);
        due("8: wall", x.cell(6, 4), 7);
        due("8: house", x.cell(0, 5), 0);
        due("8: net", x.cell(1, 8), 0);
        x.net(1, true);
        due("8: net", x.cell(1, 8), 1);
        for (int bad : new int[] {-1, 9, FAR, LOW}) {
            due("8: cell " + bad, x.cell(bad, 0), NONE);
            due("9: stone " + bad, x.stone(bad, 0), NONE);
            due("10: house " + bad, x.house(bad, 0), NONE);
            due("11: owner " + bad, x.owner(bad, 0), NOTHING);
        }
        due("8: what", x.cell(0, 10), NONE);
        due("8: what", x.cell(0, -1), NONE);
        int[] held = {4, 9, 8, 0, 0, 0, 4, 1};
        for (int i = 0; i < held.length; i++) {
            due("9: stone(1, " + i + ")", x.stone(1, i), held[i]);
        }
        due("9: least push is 0 at least", x.stone(0, 6), 1);
        due("9: without a next", x.stone(2, 6), NONE);
        due("9: not held", x.stone(2, 7), 0);
        due("9: nobody's", x.stone(2, 3), NONE);
        due("9: what", x.stone(0, 8), NONE);
        x.take(1);
        due("9: taken: place", x.stone(1, 2), NONE);
        due("9: taken: owner", x.stone(1, 3), NONE);
        due("9: taken: least push", x.stone(1, 6), NONE);
        due("9: taken: held", x.stone(1, 7), 0);
        due("9: taken: weight", x.stone(1, 0), 4);
        int[] house = {6, 0, 0, NONE};
        for (int i = 0; i < house.length; i++) {
            due("10: house(0, " + i + ")", x.house(0, i), house[i]);
        }
        due("10: what", x.house(0, 4), NONE);
        due("10: house 1", x.house(1, 0), NONE);
    }

    private static void owners() {
        BoulderDowry x = stair("stone s weight 2 rest 0 at 0 1;stone t weight 9 rest 0 at 0 2;stone u weight 30 rest 0 at 0 0;"
                + "house h worth 7 at 0 3;due 5 when all;");
        int[] ann = {4, 2, 32, 0, 0};
        int[] bob = {3, 1, 9, 1, 0};
        for (int i = 0; i < 5; i++) {
            due("11: ann " + i, x.owner(0, i), ann[i]);
            due("11: bob " + i, x.owner(1, i), bob[i]);
        }
        due("11: what", x.owner(0, 5), NOTHING);
        due("11: what", x.owner(0, -1), NOTHING);
        due("14: bob's own stone ruins bob's house", x.lever(1, 1), 1);
        due("11: no due to oneself", x.owner(1, 4), 0);
        due("11: no whole house", x.owner(1, 3), 0);
        x.take(2);
        due("11: taken", x.owner(0, 1), 1);
        due("11: taken", x.owner(0, 2), 2);
    }

    private static void dues() {
        BoulderDowry x = stair("stone s weight 2 rest 0 at 0 0;stone t weight 100 rest 0 at 0 1;stone u weight 1 rest 0 at 1 4;"
                + "wall 600 at 0 2;house h worth 70 at 0 3;"
                + "due weight*9999 when wall=1 and worth=600 and speed=10 and steps=0;due 0-5 when weight=2;due worth+steps when all;");
        due("14: through the wall into the house", x.lever(1, 9), 2);
        due("12: told", x.has(12), 2);
        int[] first = {0, 1, 9999, 1};
        int[] second = {0, 1, 71, 1};
        for (int i = 0; i < 4; i++) {
            due("12: due(0, " + i + ")", x.due(0, i), first[i]);
            due("12: due(1, " + i + ")", x.due(1, i), second[i]);
        }
        due("12: what", x.due(0, 4), NONE);
        due("12: what", x.due(0, -1), NONE);
        due("12: k", x.due(2, 0), NONE);
        due("12: k", x.due(-1, 0), NONE);
        due("11: paid", x.owner(0, 4), -10070);
        due("11: received", x.owner(1, 4), 10070);
        x.undo();
        due("22: dues undone", x.has(12), 0);
        due("22: due undone", x.due(0, 0), NONE);
        due("22: balance undone", x.owner(0, 4), 0);
        x.take(1);
        x.dig(4, 1);
        BoulderDowry one = stair("stone s weight 1 rest 0 at 0 1;house h worth 1 at 0 2;due worth when all;");
        one.spring(0);
        due("12: a due of 1 is told", one.has(12), 1);
        due("12: a due of 1", one.due(0, 2), 1);
        BoulderDowry none = stair("stone s weight 1 rest 0 at 0 1;house h worth 1 at 0 2;due worth-1 when all;");
        none.spring(0);
        due("12: a due of 0 is not", none.has(12), 0);
        due("14: a wall holds", x.lever(0, 1), 1);
        due("8: so much less", x.cell(4, 4), 560);
        due("12: none for a wall that holds", x.has(12), 0);
    }

    private static void laws() {
        BoulderDowry x = Check.of("field 2 2;due weight-speed when worth>9998 or wall=1 and steps<3;due 9999+speed when not steps=3 and not not[speed=1];"
                + "due (0-7)/2+100 when speed=2;due (0-7)%3*10+7%(0-3) when speed=3;due 7/0+7%0+4 when speed=4;"
                + "due 9999*9999-9999*100-99 when speed=5;due max(min(worth,3),steps)*2-1+10/3*3 when speed=6;due 1000-(0-9999*9999-1)/1000 when all;");
        due("13: or, and", x.law(50, 7, 0, 1, 2), 43);
        due("13: and holds together ahead of or", x.law(50, 7, 9999, 0, 9), 43);
        due("13: below 0 is 0", x.law(3, 7, 9999, 0, 9), 0);
        due("13: above 9999 is 9999", x.law(3, 1, 0, 0, 0), 9999);
        due("13: floor of a quotient", x.law(3, 2, 0, 0, 3), 96);
        due("13: what then lacks", x.law(3, 3, 0, 0, 3), 18);
        due("13: by 0", x.law(3, 4, 0, 0, 3), 4);
        due("13: product at most a million", x.law(3, 5, 0, 0, 3), 1);
        due("13: min, max, from the left on", x.law(3, 6, 9, 0, 2), 14);
        due("13: min, max", x.law(3, 6, 9, 0, 5), 18);
        due("13: difference at least minus a million", x.law(3, 9, 0, 0, 3), 2000);
        due("13: wall 2", x.law(0, 0, 0, 2, 0), NONE);
        due("13: wall -1", x.law(0, 0, 0, -1, 0), NONE);
        for (int bad : new int[] {-1, 10000, FAR, LOW}) {
            due("13: weight " + bad, x.law(bad, 0, 0, 0, 0), NONE);
            due("13: speed " + bad, x.law(0, bad, 0, 0, 0), NONE);
            due("13: worth " + bad, x.law(0, 0, bad, 0, 0), NONE);
            due("13: steps " + bad, x.law(0, 0, 0, 0, bad), NONE);
        }
        StringBuilder deep = new StringBuilder("1");
        for (int i = 0; i < 8; i++) {
            deep.insert(0, "1+2*max(3,").append(")");
        }
        BoulderDowry y = Check.of("field 2 2;due 1 when 0=1 or all and 5+1*1<" + deep + ";due " + deep + " when all;");
        due("13: eight open", y.law(0, 0, 0, 0, 0), 1);
        y = Check.of("field 2 2;due 1 when 0=1 or all and 5000+1*1<" + deep + ";due " + deep + " when all;");
        due("13: 7, 15, 31 and so on", y.law(0, 0, 0, 0, 0), 1023);
        due("13: 0 without a law", stair("").law(9999, 9999, 9999, 1, 9999), 0);
    }

    private static void levers() {
        BoulderDowry x = stair("stone s weight 2 rest 19 at 0 1;stone t weight 9 rest 20 at 0 2;");
        due("14: does not start at rest", Check.of("field 2 2;row 9 9;row 8 8;stone s weight 2 rest 11 at 0 0;").lever(0, 1), 0);
        due("14: starts above rest", Check.of("field 2 2;row 9 9;row 8 8;stone s weight 2 rest 10 at 0 0;").lever(0, 1), 1);
        due("14: stays, but pushes", x.lever(0, 1), 0);
        due("9: a roll all the same", x.stone(0, 4), 1);
        due("9: push of 20 / 9 is too little", x.stone(1, 4), 0);
        due("14: the lower one", x.lever(1, 2), 2);
        due("9: cells", x.stone(1, 5), 2);
        due("14: no next", x.lever(1, 99), 0);
        due("9: no roll without a next", x.stone(1, 4), 1);
        due("14: an act each", x.has(11), 3);
        for (int bad : new int[] {-1, 2, FAR, LOW}) {
            due("14: stone " + bad, x.lever(bad, 1), NONE);
        }
        for (int bad : new int[] {-1, 0, 100, FAR, LOW}) {
            due("14: men " + bad, x.lever(0, bad), NONE);
        }
        x.take(0);
        due("14: taken", x.lever(0, 1), NONE);
        due("14: refused", x.status(2), 10);
        due("14: no act", x.has(11), 4);
    }

    private static void pushes() {
        BoulderDowry x = stair("stone s weight 2 rest 19 at 0 0;stone t weight 1 rest 29 at 0 1;stone u weight 20 rest 9 at 0 2;");
        due("II: the push is the force over the weight", x.roll(0, 11, 3), 3);
        due("24: it stays", x.roll(0, 11, 0), 0);
        due("24: greatest speed", x.roll(0, 11, 5), 20);
        due("24: does not start", x.roll(0, 9, 3), 0);
        due("24: lies where it is", x.roll(0, 9, 0), 0);
        due("24: no speed", x.roll(0, 9, 5), 0);
        due("15: one starts, two are pushed", x.spring(10), 3);
        due("15: it stays", x.stone(0, 2), 0);
        due("15: so does the one that pushes in its turn", x.stone(1, 2), 2);
        due("15: the last one goes to the ground", x.stone(2, 2), 8);
        due("15: pushed, and then by itself", x.spring(20), 3);
        due("15: as far as the last one", x.stone(1, 2), 6);
        due("9: rolls", x.stone(1, 4), 3);
        due("9: cells", x.stone(1, 5), 2);
    }

    private static void springs() {
        BoulderDowry x = stair("stone s weight 2 rest 19 at 0 0;stone t weight 9 rest 20 at 0 2;");
        due("15: none starts", x.spring(9), 0);
        due("15: one starts", x.spring(10), 1);
        due("15: it comes to the other one", x.stone(0, 2), 2);
        due("15: most", x.spring(9999), 2);
        for (int bad : new int[] {-1, 10000, FAR, LOW}) {
            due("15: strength " + bad, x.spring(bad), NONE);
        }
        due("15: refused", x.status(2), 4);
        due("15: acts", x.has(11), 3);
        due("15: strength 0", x.spring(0), 0);
    }

    private static void goingOn() {
        BoulderDowry x = stair("stone s weight 2 rest 19 at 0 0;thaw 5 odds 2;thaw 10 odds 3;");
        due("17: seed", x.seed(0), true);
        due("16: draws 12345 / 64 = 192, 192 % 5 = 2", x.goOn(1), 1);
        due("6: seed", x.has(13), 12345);
        due("22: undone", x.undo(), true);
        due("22: but the seed", x.has(13), 12345);
        due("16: twenty", x.goOn(20), 1);
        due("16: twenty acts", x.has(11), 20);
        due("16: twenty more", x.goOn(20), 0);
        due("22: thirty acts", x.has(11), 30);
        for (int bad : new int[] {0, -1, 21, FAR, LOW}) {
            due("16: n " + bad, x.goOn(bad), NONE);
        }
        due("16: refused", x.status(2), 5);
        due("17: seed below 0", x.seed(-1), false);
        due("17: seed far below 0", x.seed(LOW), false);
        due("17: refused", x.status(5), 2);
        due("17: highest seed", x.seed(FAR), true);
        due("6: highest seed", x.has(13), FAR);
        BoulderDowry y = stair("");
        due("16: without thaws", y.goOn(1), NONE);
        due("16: refused", y.status(2), 1);
        due("16: no draw", y.has(13), 1);
    }

    private static void building() {
        BoulderDowry x = stair("stone s weight 2 rest 0 at 0 0;house h worth 7 at 0 3;wall 5 at 1 0;rough 90 at 1 4;");
        due("18: laid", x.net(0, true), true);
        due("18: so already", x.net(0, true), false);
        due("18: taken away", x.net(0, false), true);
        due("18: so already", x.net(0, false), false);
        due("18: no cell", x.net(10, true), false);
        due("18: no cell", x.net(-1, false), false);
        due("18: refused", x.status(3), 4);
        due("19: built", x.wall(2, 9999), true);
        due("19: a wall there", x.wall(2, 1), false);
        due("19: a stone there", x.wall(0, 1), false);
        due("19: a house there", x.wall(6, 1), false);
        due("19: holds 0", x.wall(4, 0), false);
        due("19: holds 10000", x.wall(4, 10000), false);
        due("19: no cell", x.wall(10, 1), false);
        due("19: no cell", x.wall(-1, 1), false);
        due("19: refused", x.status(3), 11);
        due("20: dug", x.dig(9, 1), 91);
        due("20: 99 at most", x.dig(9, 9), 99);
        due("20: 99 still", x.dig(9, 99), 99);
        due("20: deep 0", x.dig(9, 0), NONE);
        due("20: deep 100", x.dig(9, 100), NONE);
        due("20: no cell", x.dig(10, 1), NONE);
        due("20: no cell", x.dig(-1, 1), NONE);
        due("21: none such", x.take(1), NONE);
        due("21: none such", x.take(-1), NONE);
        due("21: taken", x.take(0), 2);
        due("21: taken already", x.take(0), NONE);
        due("40: refused", x.status(3), 18);
        due("21: no stone there", x.cell(0, 3), NONE);
        due("19: where a stone was", x.wall(0, 1), true);
        due("22: acts", x.has(11), 8);
    }

    private static void ruins() {
        BoulderDowry x = stair("stone s weight 2 rest 0 at 0 0;stone t weight 2 rest 0 at 0 2;house h worth 7 at 0 3;");
        due("14: ruined", x.lever(1, 1), 1);
        due("10: ruin", x.house(0, 2), 1);
        due("8: house all the same", x.cell(6, 5), 0);
        due("14: on from the ruin", x.lever(1, 1), 1);
        due("19: a wall on the ruin", x.wall(6, 30), true);
        due("14: a ruin bars nothing", x.lever(0, 1), 3);
        due("27: a ruin is not hit", stair("house h worth 7 at 0 3;stone s weight 1 rest 0 at 0 0;thaw 0 odds 1;").hit(0), 1000);
    }

    private static void undoing() {
        BoulderDowry x = stair("stone s weight 2 rest 0 at 0 0;house h worth 7 at 0 3;wall 11 at 0 1;due 5 when all;");
        byte[] start = Check.image(x);
        x.lever(0, 1);
        due("10: ruin", x.house(0, 2), 1);
        due("8: no wall", x.cell(2, 4), 0);
        x.net(5, true);
        x.dig(5, 7);
        x.wall(5, 7);
        x.take(0);
        for (int i = 0; i < 5; i++) {
            due("22: undo", x.undo(), true);
        }
        byte[] end = Check.image(x);
        for (int i = 0; i < start.length; i++) {
            due("22: as it was " + i, end[i], start[i]);
        }
        due("22: rolls", x.stone(0, 4), 0);
        due("22: cells", x.stone(0, 5), 0);
        due("22: none left", x.undo(), false);
        due("22: refused", x.status(4), 1);
        for (int i = 0; i < 40; i++) {
            x.dig(9, 1);
        }
        for (int i = 0; i < 30; i++) {
            due("22: of the last 30", x.undo(), true);
        }
        due("22: not the 31st", x.undo(), false);
        due("22: ten are left", x.cell(9, 1), 10);
    }

    private static void paths() {
        BoulderDowry x = stair("stone s weight 2 rest 30 at 0 0;stone t weight 2 rest 0 at 0 4;rough 29 at 0 2;");
        due("23: does not start", x.path(0, 20, NONE), 0);
        due("23: starts", x.path(0, 21, NONE), 2);
        due("23: first", x.path(0, 21, 0), 2);
        due("23: second", x.path(0, 21, 1), 4);
        due("23: no third", x.path(0, 21, 2), NONE);
        due("23: k", x.path(0, 21, -2), NONE);
        due("23: hardest push", x.path(0, 99999, NONE), 2);
        due("23: too hard", x.path(0, 100000, NONE), NONE);
        due("23: below 0", x.path(0, -1, NONE), NONE);
        due("23: none such", x.path(2, 1, NONE), NONE);
        due("23: none such", x.path(-1, 1, NONE), NONE);
        due("24: what", x.roll(0, 21, 6), NONE);
        due("24: what", x.roll(0, 21, -1), NONE);
        due("24: too hard", x.roll(0, 100000, 0), NONE);
        due("24: below 0", x.roll(0, -1, 0), NONE);
        due("24: none such", x.roll(2, 1, 0), NONE);
        due("23: nothing is done", x.stone(0, 4), 0);
        due("23: no act", x.has(11), 0);
        x.take(0);
        due("23: taken", x.path(0, 21, NONE), NONE);
        due("24: taken", x.roll(0, 21, 0), NONE);
    }

    /** Roughness, nets, walls and houses, each where it just stops a stone and where it just does not. */
    private static void rolling() {
        String s = "stone s weight 3 rest 0 at 0 0;";
        due("II: roughness stops at speed 0", stair(s + "rough 10 at 0 1;").roll(0, 0, 0), 2);
        due("II: speed 1 goes on", stair(s + "rough 9 at 0 1;").roll(0, 0, 0), 8);
        due("II: roughness stops below 0", stair(s + "rough 99 at 0 1;").roll(0, 0, 0), 2);
        BoulderDowry x = stair(s + "wall 30 at 0 1;");
        due("II: force 30, wall 30", x.roll(0, 0, 0), 0);
        due("II: not gone by force above", x.roll(0, 0, 2), 0);
        x.lever(0, 1);
        due("II: gone at 0", x.has(3), 0);
        BoulderDowry y = Check.of("field 2 2;row 1 1;owner a;owner b;land a at 0 0 to 1 0;land b at 0 1 to 1 1;"
                + "stone s weight 1 rest 0 at 0 0;wall 1 at 0 1;due 1 when all;");
        due("II: force 1, wall 1", y.lever(0, 1), 0);
        due("II: gone at 0", y.has(3), 0);
        due("II: without a due", y.has(12), 0);
        y.wall(3, 1);
        due("II: nothing but the wall is in the way", y.lever(0, 1), 1);
        x = stair(s + "wall 29 at 0 1;");
        due("II: force 30, wall 29: speed 0", x.roll(0, 0, 0), 2);
        due("24: wall gone by force", x.roll(0, 0, 2), 1);
        x = stair(s + "wall 27 at 0 1;");
        due("II: force 30, wall 27: speed 1", x.roll(0, 0, 0), 8);
        due("II: then 31 at the end", x.roll(0, 0, 5), 31);
        x.net(2, true);
        due("II: a net where a wall has gone", x.roll(0, 0, 0), 2);
        x = stair(s + "wall 27 at 0 1;rough 1 at 0 1;");
        due("II: roughness where a wall has gone", x.roll(0, 0, 0), 2);
        x = stair(s + "house h worth 8 at 0 1;house i worth 9 at 0 2;");
        due("II: a stone lies in the ruin", x.roll(0, 0, 0), 2);
        due("24: houses", x.roll(0, 0, 1), 1);
        due("24: worth", x.roll(0, 0, 4), 8);
        x.spring(0);
        x.spring(0);
        due("II: then in the other one", x.stone(0, 2), 4);
        x.spring(0);
        due("II: then at the end", x.stone(0, 2), 8);
        x = stair(s);
        x.net(0, true);
        x.net(6, true);
        due("II: only a net into which it comes", x.roll(0, 0, 0), 6);
    }

    private static void thaws() {
        BoulderDowry x = stair("stone s weight 3 rest 12 at 0 0;stone t weight 3 rest 25 at 1 4;house h worth 8 at 0 1;house i worth 9 at 0 4;"
                + "thaw 2 odds 5;thaw 3 odds 1;thaw 30 odds 1;thaw 9999 odds 99;");
        int[][] want = {{2, 5, 1, 9, 1}, {3, 1, 2, 17, 2}, {30, 1, 2, 17, 2}, {9999, 99, 2, 17, 2}};
        for (int i = 0; i < 4; i++) {
            for (int k = 0; k < 5; k++) {
                due("25: thaw(" + i + ", " + k + ")", x.thaw(i, k), want[i][k]);
            }
            due("25: what", x.thaw(i, 5), NONE);
            due("25: what", x.thaw(i, -1), NONE);
        }
        due("25: none such", x.thaw(4, 0), NONE);
        due("25: none such", x.thaw(-1, 0), NONE);
        due("26: lies", x.lies(0, 0), 47);
        due("26: lies", x.lies(0, 2), 952);
        due("26: lies", x.lies(1, 8), 1000);
        due("26: lies", x.lies(1, 9), 0);
        due("26: taken", x.lies(1, NONE), 0);
        due("26: no cell", x.lies(1, 10), NONE);
        due("26: no cell", x.lies(1, -2), NONE);
        due("26: none such", x.lies(2, 0), NONE);
        due("26: none such", x.lies(-1, NONE), NONE);
        due("27: hit", x.hit(0), 952);
        due("27: hit", x.hit(1), 1000);
        due("27: none such", x.hit(2), NONE);
        due("27: none such", x.hit(-1), NONE);
        due("28: the first of like ones", x.worst(0), 1);
        due("28: worth", x.worst(1), 17);
        due("28: what", x.worst(2), NONE);
        due("28: what", x.worst(-1), NONE);
        due("25: nothing is done", x.house(0, 2), 0);
        x.take(1);
        due("26: taken as it is", x.lies(1, NONE), 1000);
        due("26: taken elsewhere", x.lies(1, 8), 0);
        x.spring(3);
        due("27: a ruin", x.hit(0), 0);
        BoulderDowry y = stair("stone s weight 3 rest 12 at 0 0;house h worth 8 at 0 1;");
        due("26: no thaws", y.lies(0, 0), NONE);
        due("26: no thaws", y.lies(0, NONE), NONE);
        due("27: no thaws", y.hit(0), NONE);
        due("28: no thaws", y.worst(0), NONE);
    }

    private static void menAndCrews() {
        BoulderDowry x = stair("stone s weight 3 rest 95 at 0 0;stone t weight 3 rest 9 at 1 4;stone u weight 9 rest 999 at 1 0;");
        due("29: 9 men", x.men(0, 1), 9);
        due("29: as it lies", x.men(0, 0), 1);
        due("29: one man, though more than needed", x.men(1, 1), 1);
        due("29: it would not stay", x.men(1, 0), NONE);
        due("29: 96 men", x.men(2, 1), NONE);
        due("29: as it lies", x.men(2, 0), 1);
        due("29: no such owner", x.men(0, 2), NONE);
        due("29: no such stone", x.men(3, 0), NONE);
        due("29: no such stone", x.men(-1, 0), NONE);
        due("30: two stones", x.crew(3, 1, NONE), 10);
        due("30: men of the first", x.crew(3, 1, 0), 9);
        due("30: men of the second", x.crew(3, 1, 1), 1);
        due("30: no third", x.crew(3, 1, 2), NONE);
        due("30: t first, for it can't come to where s would lie", x.crew(3, 1, 10), 1);
        due("30: the second in the order", x.crew(3, 1, 11), 0);
        due("30: no third in the order", x.crew(3, 1, 12), NONE);
        due("30: 10 men are too many", x.crew(4, 1, NONE), NONE);
        due("30: none needed", x.crew(5, 0, NONE), 0);
        due("30: not back", x.crew(2, 0, NONE), NONE);
        for (int bad : new int[] {-2, 3, 9, 13, FAR, LOW}) {
            due("30: k " + bad, x.crew(3, 1, bad), NONE);
        }
        for (int bad : new int[] {0, 8, -1, FAR, LOW}) {
            due("30: stones " + bad, x.crew(bad, 1, NONE), NONE);
        }
        due("30: no such owner", x.crew(3, 2, NONE), NONE);
        due("30: no such owner", x.crew(3, -1, NONE), NONE);
        x.take(0);
        due("30: taken", x.crew(3, 1, NONE), NONE);
        due("29: taken", x.men(0, 1), NONE);
        BoulderDowry y = Check.of("field 2 2;owner o;land o at 0 0 to 1 1;stone s weight 1 rest 0 at 0 0;stone t weight 1 rest 0 at 1 0;"
                + "stone u weight 1 rest 0 at 0 1;stone v weight 1 rest 0 at 1 1;");
        due("30: three that lie there already", y.crew(14, 0, NONE), 0);
        due("30: four are too many", y.crew(15, 0, NONE), NONE);
    }

    /** Orders matter: a stone that lies in the way must go first, or it is pushed along for nothing. */
    private static void crewOrders() {
        BoulderDowry x = stair("stone s weight 3 rest 0 at 0 0;stone t weight 3 rest 60 at 0 1;");
        due("30: the lower one first", x.crew(3, 1, NONE), 7);
        due("30: by numbers", x.crew(3, 1, 0), 1);
        due("30: by numbers", x.crew(3, 1, 1), 6);
        due("30: order", x.crew(3, 1, 10), 1);
        due("30: order", x.crew(3, 1, 11), 0);
        BoulderDowry z = Check.of("field 3 2;row 51 13 14;row 2 5 32;owner o;land o at 0 1 to 2 1;"
                + "stone a weight 8 rest 7 at 2 1;stone b weight 1 rest 26 at 1 1;stone c weight 3 rest 29 at 2 0;");
        int[] fewest = {1, 0, 3};
        due("30: fewer than what is tried first", z.crew(7, 0, NONE), 4);
        for (int k = 0; k < 3; k++) {
            due("30: men", z.crew(7, 0, k), fewest[k]);
            due("30: order", z.crew(7, 0, 10 + k), k);
        }
        BoulderDowry like = Check.of("field 2 5;row 209 999;row 207 999;row 179 999;row 152 999;row 149 999;owner o;land o at 0 1 to 0 1;"
                + "land o at 0 3 to 0 4;rough 16 at 0 2;rough 20 at 0 4;stone a weight 2 rest 41 at 0 0;stone b weight 3 rest 13 at 0 2;"
                + "stone c weight 3 rest 9 at 0 3;");
        int[] first = {4, 0, 1};
        int[] order = {1, 2, 0};
        due("30: five men, as 4 1 0 in an earlier order", like.crew(7, 0, NONE), 5);
        for (int k = 0; k < 3; k++) {
            due("30: fewest of the second", like.crew(7, 0, k), first[k]);
            due("30: the order for that", like.crew(7, 0, 10 + k), order[k]);
        }
        BoulderDowry y = Check.of("field 3 3;row 9 9 9;row 5 5 5;row 1 1 1;owner o;land o at 0 1 to 2 2;"
                + "stone a weight 1 rest 0 at 0 0;stone b weight 1 rest 0 at 1 0;stone c weight 1 rest 0 at 2 0;");
        due("30: three", y.crew(7, 0, NONE), 3);
        for (int k = 0; k < 3; k++) {
            due("30: men", y.crew(7, 0, k), 1);
            due("30: the first order", y.crew(7, 0, 10 + k), k);
        }
    }

    private static void nets() {
        BoulderDowry x = stair("stone s weight 3 rest 12 at 0 0;stone t weight 3 rest 25 at 1 4;house i worth 9 at 0 4;thaw 3 odds 5;");
        due("31: t falls right into the house", x.nets(NONE), NONE);
        due("31: none", x.nets(0), NONE);
        x.take(1);
        due("31: one", x.nets(NONE), 1);
        due("31: the first place", x.nets(0), 2);
        due("31: no second", x.nets(1), NONE);
        x.wall(2, 1);
        due("31: not where a wall is", x.nets(0), 4);
        x.net(6, true);
        due("31: none needed", x.nets(NONE), 0);
        due("31: k", x.nets(0), NONE);
        x.undo();
        due("31: one again", x.nets(NONE), 1);
        due("31: k", x.nets(-2), NONE);
        due("31: k", x.nets(3), NONE);
        due("31: no field", new BoulderDowry().nets(NONE), NONE);
        due("31: no thaws", stair("").nets(NONE), 0);
        BoulderDowry up = Check.of("field 2 3;row 5 9;row 3 9;row 1 9;stone s weight 1 rest 0 at 1 0;house h worth 1 at 0 2;thaw 0 odds 1;");
        due("31: one", up.nets(NONE), 1);
        due("31: place 0", up.nets(0), 0);
        up.wall(0, 1);
        due("31: not at place 0", up.nets(0), 2);
        StringBuilder four = new StringBuilder("field 4 4;row 9 9 9 9;row 7 7 7 7;row 5 5 5 5;row 3 3 3 3;thaw 0 odds 1;");
        for (int i = 0; i < 3; i++) {
            four.append("stone s" + (char) ('a' + i) + " weight 1 rest 0 at " + i + " 0;house h" + (char) ('a' + i) + " worth 1 at " + i + " 3;");
        }
        BoulderDowry y = Check.of(four.toString());
        due("31: three", y.nets(NONE), 3);
        for (int k = 0; k < 3; k++) {
            due("31: the first row of places", y.nets(k), 4 + k);
        }
        y = Check.of(four + "stone z weight 1 rest 0 at 3 0;house y worth 1 at 3 3;");
        due("31: three do not do", y.nets(NONE), NONE);
    }

    private static void dowries() {
        BoulderDowry x = stair("stone s weight 10 rest 12 at 0 0;stone t weight 3 rest 99 at 1 0;rough 99 at 0 2;thaw 3 odds 1;thaw 2 odds 2;");
        due("32: with 0 springs", x.dowry(0, 0, 0, 0), 10000);
        due("32: with 0 springs", x.dowry(0, 1, 0, 0), 0);
        due("32: with 0 springs, hand over", x.dowry(0, 1, 0, 1), 1);
        due("32: a third", x.dowry(0, 1, 1, 0), 3333);
        due("32: five ninths", x.dowry(0, 1, 2, 0), 5555);
        due("32: 19 of 27", x.dowry(0, 1, 3, 0), 7037);
        due("32: wait", x.dowry(0, 1, 3, 1), 0);
        due("32: hand over", x.dowry(0, 0, 3, 1), 1);
        due("32: all of it", x.dowry(0, 0, 3, 0), 10000);
        due("32: none, and it does not lie there", x.dowry(1, 1, 2, 1), 0);
        due("32: none", x.dowry(1, 1, 2, 0), 0);
        due("32: n", x.dowry(0, 1, 4, 0), NONE);
        due("32: n", x.dowry(0, 1, -1, 0), NONE);
        due("32: what", x.dowry(0, 1, 1, 2), NONE);
        due("32: what", x.dowry(0, 1, 1, -1), NONE);
        due("32: stone", x.dowry(2, 1, 1, 0), NONE);
        due("32: stone", x.dowry(-1, 1, 1, 0), NONE);
        due("32: owner", x.dowry(0, 2, 1, 0), NONE);
        due("32: owner", x.dowry(0, -1, 1, 0), NONE);
        due("32: nothing is done", x.stone(0, 2), 0);
        x.take(0);
        due("32: taken", x.dowry(0, 0, 0, 0), NONE);
        BoulderDowry y = stair("stone s weight 10 rest 12 at 0 0;");
        due("32: without thaws", y.dowry(0, 0, 0, 0), 10000);
        due("32: without thaws", y.dowry(0, 0, 1, 0), NONE);
        due("32: without thaws", y.dowry(0, 0, 1, 1), NONE);
    }

    private static void whences() {
        BoulderDowry x = stair("stone s weight 10 rest 9999 at 0 3;stone t weight 3 rest 0 at 1 0;");
        due("33: it would roll on", x.whence(0, NONE), 0);
        x.net(6, true);
        due("33: from above and aside", x.whence(0, NONE), 6);
        int[] want = {0, 2, 3, 4, 5, 7, NONE};
        due("33: first", x.whence(0, 0), want[0]);
        x.net(4, true);
        due("33: not past a net, nor from it", x.whence(0, NONE), 1);
        due("33: from aside", x.whence(0, 0), 7);
        due("33: k", x.whence(0, 1), NONE);
        due("33: k", x.whence(0, -2), NONE);
        x.undo();
        x.undo();
        x.wall(8, 9999);
        due("33: a wall would hold less", x.whence(0, NONE), 0);
        due("33: a wall would hold less", x.whence(0, 0), NONE);
        x.undo();
        x.net(6, true);
        x.wall(4, 1);
        due("33: a wall would be gone", x.whence(0, NONE), 1);
        due("33: from aside", x.whence(0, 0), 7);
        x.undo();
        due("33: as it was", x.whence(0, NONE), 6);
        for (int k = 0; k < want.length; k++) {
            due("33: whence(0, " + k + ")", x.whence(0, k), want[k]);
        }
        due("33: none such", x.whence(2, NONE), NONE);
        due("33: none such", x.whence(-1, NONE), NONE);
        x.take(0);
        due("33: taken", x.whence(0, NONE), NONE);
        whencesAtAStone();
    }

    /** What lies at 0 2 would stay there only because another one lies below it, at 0 3. */
    private static void whencesAtAStone() {
        String upper = "stone s weight 1 rest 9999 at 0 2;";
        BoulderDowry still = stair(upper + "stone t weight 1 rest 9999 at 0 3;");
        due("33: held up by a stone that stays", still.whence(0, NONE), 5);
        BoulderDowry started = stair(upper + "stone t weight 1 rest 0 at 0 3;");
        due("33: it would start another one", started.whence(0, NONE), 0);
        BoulderDowry barred = stair(upper + "stone t weight 1 rest 0 at 0 3;stone u weight 1 rest 9999 at 0 4;");
        due("33: it would start one that then stays", barred.whence(0, NONE), 0);
        BoulderDowry slow = stair(upper + "stone t weight 1 rest 49 at 0 3;");
        due("33: it would start another one from high up alone", slow.whence(0, NONE), 2);
        due("33: not from high up", slow.whence(0, 0), 0);
        due("33: not from high up", slow.whence(0, 1), 2);
    }

    private static void leaning() {
        BoulderDowry x = stair("stone s weight 1 rest 5 at 0 0;stone t weight 1 rest 5 at 0 1;stone u weight 1 rest 50 at 0 2;stone v weight 1 rest 5 at 0 4;");
        int[][] want = {{0, 1, 1, 0}, {0, 0, 1, 0}, {0, 0, 0, 0}, {0, 0, 0, 0}};
        for (int i = 0; i < 4; i++) {
            for (int j = 0; j < 4; j++) {
                due("34: leans(" + i + ", " + j + ")", x.leans(i, j), want[i][j]);
            }
        }
        due("34: none such", x.leans(0, 4), NONE);
        due("34: none such", x.leans(4, 0), NONE);
        due("34: none such", x.leans(-1, 0), NONE);
        due("35: from above", x.quarry(7, NONE), 1);
        for (int k = 0; k < 3; k++) {
            due("35: quarry(7, " + k + ")", x.quarry(7, k), k);
        }
        due("35: k", x.quarry(7, 3), NONE);
        due("35: k", x.quarry(7, -2), NONE);
        due("35: the lowest first starts the next", x.quarry(4, NONE), 0);
        due("35: no order, no stone", x.quarry(4, 0), NONE);
        due("35: one that lies on the ground at any time", x.quarry(15, NONE), 4);
        due("35: the first order", x.quarry(15, 3), 3);
        for (int bad : new int[] {0, 16, -1, FAR, LOW}) {
            due("35: stones " + bad, x.quarry(bad, NONE), NONE);
        }
        x.take(1);
        due("34: taken", x.leans(1, 2), 0);
        due("34: none to lean on", x.leans(0, 2), 0);
        due("34: on a taken one", x.leans(0, 1), 0);
        due("35: taken", x.quarry(3, NONE), NONE);
        due("35: s would start", x.quarry(4, NONE), 0);
        due("35: what starts ahead is of no matter", x.quarry(1, NONE), 1);
        StringBuilder ten = new StringBuilder("field 5 2;");
        for (int i = 0; i < 10; i++) {
            ten.append("stone s" + (char) ('a' + i) + " weight 1 rest 0 at " + i % 5 + " " + i / 5 + ";");
        }
        BoulderDowry y = Check.of(ten.toString());
        due("35: six", y.quarry(63 << 4, NONE), 720);
        due("35: the first order", y.quarry(63 << 4, 5), 9);
        due("35: seven", y.quarry(127, NONE), NONE);
    }

    private static void roping() {
        BoulderDowry x = stair("stone s weight 5 rest 0 at 0 1;stone t weight 9 rest 5 at 0 0;stone u weight 9 rest 50 at 1 4;rope 40;rope 30;rope 25;rope 5;");
        int[] want = {1, 90, 100, 7, 6, 1};
        for (int i = 0; i < want.length; i++) {
            due("36: ropes(" + i + ")", x.ropes(i), want[i]);
        }
        due("36: what", x.ropes(6), NONE);
        due("36: what", x.ropes(-1), NONE);
        x.take(1);
        due("36: the next heaviest", x.ropes(0), 2);
        due("36: load 9 times 80", x.ropes(1), 720);
        due("36: do not hold", x.ropes(5), 0);
        due("36: without each they do not", x.ropes(3), 15);
        due("36: nor without two", x.ropes(4), 6);
        x.take(2);
        x.take(0);
        for (int i = 0; i < want.length; i++) {
            due("36: without a stone", x.ropes(i), NONE);
        }
        BoulderDowry y = stair("stone s weight 9 rest 0 at 0 0;rope 90;");
        due("36: no less than the load", y.ropes(5), 1);
        due("36: the only one", y.ropes(3), 1);
        due("36: no pair", y.ropes(4), 0);
        BoulderDowry z = stair("stone s weight 9 rest 0 at 0 4;");
        due("36: no load, no rope", z.ropes(5), 1);
        due("36: strength 0", z.ropes(2), 0);
    }

    private static void images() {
        BoulderDowry x = Check.of("field 2 2;row 9 8;row 7 6;stone s weight 1 rest 0 at 1 1;stone t weight 1 rest 0 at 0 0;house h worth 1 at 1 0;"
                + "wall 515 at 0 1;rough 9 at 1 1;");
        x.take(1);
        x.net(1, true);
        int[] want = {4, 0, 0, 0, 0, 0, 0, 0, 0, 0, 1, 2, 3, 0, 0, 0, 0, 9, 0, 0};
        int c = 83;
        for (int i = 0; i < want.length - 1; i++) {
            c = (3 * c + want[i]) % 253;
        }
        want[want.length - 1] = c;
        due("37: bytes", x.image(), want.length);
        for (int i = 0; i < want.length; i++) {
            due("38: octet(" + i + ")", x.octet(i), want[i]);
        }
        due("38: behind", x.octet(want.length), NONE);
        due("38: ahead", x.octet(-1), NONE);
        due("38: far", x.octet(FAR), NONE);
        x.undo();
        due("38: of the latest image", x.octet(0), 4);
        due("38: before any", new BoulderDowry().octet(0), NONE);
    }

    private static void putOn() {
        BoulderDowry x = stair("stone s weight 2 rest 0 at 0 0;stone t weight 2 rest 0 at 1 1;house h worth 7 at 0 3;wall 11 at 0 1;due 5 when all;thaw 0 odds 1;");
        byte[] start = Check.image(x);
        x.spring(0);
        x.net(9, true);
        x.take(0);
        byte[] end = Check.image(x);
        Check.feed(x, start);
        due("39: on", x.on(), true);
        due("39: the tape goes", x.end(1), false);
        due("39: stones", x.stone(0, 2), 0);
        due("39: house", x.house(0, 2), 0);
        due("39: wall", x.cell(2, 4), 11);
        due("39: nets", x.has(10), 0);
        due("39: no rolls", x.stone(0, 4) + x.stone(1, 4), 0);
        due("39: no cells", x.stone(0, 5) + x.stone(1, 5), 0);
        due("39: no dues", x.has(12), 0);
        due("39: no balance", x.owner(0, 4), 0);
        due("39: no undo", x.undo(), false);
        Check.feed(x, end);
        due("39: on", x.on(), true);
        due("39: taken", x.stone(0, 2), NONE);
        due("39: nets", x.cell(9, 8), 1);
        BoulderDowry y = new BoulderDowry();
        Check.feed(y, new byte[] {83});
        due("39: without a field", y.on(), true);
        due("39: an empty tape", y.on(), false);
        due("39: refused", y.status(5), 1);
    }

    private static void largestImage() {
        StringBuilder text = new StringBuilder("field 10 6;");
        for (int i = 0; i < 10; i++) {
            text.append("stone s" + (char) ('a' + i) + " weight 1 rest 0 at " + i + " 5;");
        }
        for (int i = 0; i < 8; i++) {
            text.append("house h" + (char) ('a' + i) + " worth 1 at " + i + " 4;");
        }
        BoulderDowry x = Check.of(text.toString());
        x.net(59, true);
        byte[] image = Check.image(x);
        due("37: bytes", image.length, 10 + 8 + 240 + 1);
        due("38: the last cell's net", x.octet(257), 1);
        due("38: the last stone", x.octet(9), 60);
        x.net(59, false);
        Check.feed(x, image);
        due("39: on", x.on(), true);
        due("39: the last cell's net", x.cell(59, 8), 1);
    }

    private static BoulderDowry spoiled;

    private static void spoil(String what, byte[] image, int at, int octet, boolean want) {
        byte[] bytes = image.clone();
        bytes[at] = (byte) octet;
        Check.feed(spoiled, Check.checked(bytes));
        due("39: " + what, spoiled.on(), want);
    }

    private static void badImages() {
        // Bytes: stones 0 and 1, house 2, cell i from 3 + 4 i on.
        spoiled = Check.of("field 2 3;stone s weight 1 rest 0 at 0 0;stone t weight 1 rest 0 at 1 0;house h worth 1 at 0 1;wall 7 at 1 1;");
        BoulderDowry x = spoiled;
        byte[] image = Check.image(x);
        due("37: bytes", image.length, 2 + 1 + 24 + 1);
        spoil("as it was", image, 0, 1, true);
        spoil("the last place", image, 0, 6, true);
        due("39: it lies there", x.stone(0, 2), 5);
        spoil("no such place", image, 0, 7, false);
        spoil("no such place by far", image, 0, 255, false);
        spoil("two in one place", image, 0, 2, false);
        spoil("in a whole house", image, 0, 3, false);
        spoil("in a wall", image, 0, 4, false);
        due("39: all stays", x.stone(0, 2), 5);
        spoil("taken", image, 0, 0, true);
        due("39: it is taken", x.stone(0, 2), NONE);
        spoil("both taken", with(image, 1, 0), 0, 0, true);
        due("39: both are taken", x.has(9), 0);
        spoil("a ruin", image, 2, 1, true);
        spoil("no ruin", image, 2, 2, false);
        spoil("a wall where a stone lies", image, 4, 1, false);
        spoil("a wall where a taken stone lay", with(image, 0, 0), 4, 1, true);
        spoil("a wall in a whole house", image, 12, 1, false);
        spoil("a wall elsewhere", image, 20, 1, true);
        spoil("a wall that holds 9999", with(image, 19, 39), 20, 15, true);
        spoil("a wall that holds 10000", with(image, 19, 39), 20, 16, false);
        spoil("roughness 99", image, 5, 99, true);
        spoil("roughness 100", image, 5, 100, false);
        spoil("a net", image, 6, 1, true);
        spoil("no net", image, 6, 2, false);
        due("39: refused", x.status(5), 11);
        spoil("a stone in a ruin", with(image, 2, 1), 0, 3, true);
        due("39: it lies there", x.stone(0, 2), 2);
        spoil("a wall in a ruin", with(image, 2, 1), 12, 1, true);
        byte[] wrong = image.clone();
        wrong[wrong.length - 1] ^= 1;
        Check.feed(x, wrong);
        due("39: last byte", x.on(), false);
        Check.feed(x, Check.checked(java.util.Arrays.copyOf(image, image.length + 1)));
        due("39: too long", x.on(), false);
        Check.feed(x, Check.checked(java.util.Arrays.copyOf(image, image.length - 1)));
        due("39: too short", x.on(), false);
        due("39: the tape goes", x.end(1), false);
        due("39: all stays", x.cell(2, 4), 1);
    }

    private static byte[] with(byte[] image, int at, int octet) {
        byte[] bytes = image.clone();
        bytes[at] = (byte) octet;
        return bytes;
    }

    private static void statuses() {
        BoulderDowry x = new BoulderDowry();
        x.end(1);
        x.slope();
        x.slope();
        x.lever(0, 1);
        x.spring(-1);
        x.goOn(1);
        x.net(0, true);
        x.wall(0, 1);
        x.dig(0, 1);
        x.take(0);
        for (int i = 0; i < 5; i++) {
            x.undo();
        }
        x.seed(-1);
        for (int i = 0; i < 5; i++) {
            x.on();
        }
        int[] want = {1, 2, 3, 4, 5, 6};
        for (int i = 0; i < want.length; i++) {
            due("40: status(" + i + ")", x.status(i), want[i]);
        }
        due("40: status(6)", x.status(6), NONE);
        due("40: status(-1)", x.status(-1), NONE);
        Check.tell(x, STAIR);
        due("40: a slope does not change it", x.status(5), 6);
    }

    public static void main(String[] args) {
        newObject();
        tape();
        slopes();
        lastCounts();
        counts();
        letters();
        cellsStonesHouses();
        owners();
        dues();
        laws();
        levers();
        pushes();
        springs();
        goingOn();
        building();
        ruins();
        undoing();
        paths();
        rolling();
        thaws();
        menAndCrews();
        crewOrders();
        nets();
        dowries();
        whences();
        leaning();
        roping();
        images();
        putOn();
        largestImage();
        badImages();
        statuses();
        Check.finish("PromiseTest");
    }
}
