/** Term I, sentence by sentence: what a slope's text is, and where its fault is. */
final class EdgesOfText {
    private static final int NONE = BoulderDowry.NONE;
    private static final String[] OWN_WORDS = {"field", "row", "rough", "at", "owner", "land", "to", "stone", "weight", "rest", "house",
        "worth", "wall", "thaw", "odds", "rope", "due", "when", "or", "and", "not", "all", "speed", "steps", "min", "max"};

    private EdgesOfText() {
    }

    static void all() {
        statements();
        fields();
        rows();
        roughs();
        lands();
        stones();
        counted();
        cells();
        namesAndNumbers();
        EdgesOfLaws.all();
        blanks();
        ownWords();
        faults();
        faultsOfSyntax();
        faultsOfNamesAndNumbers();
        faultsOfTooMany();
    }

    private static void says(String words) {
        Says.says("I", words);
    }

    private static void due(String what, long got, long want) {
        Check.due(what, got, want);
    }

    private static void fine(String text, int statements) {
        Texts.fine(text, statements);
    }

    private static void fault(String text, int kind, int place) {
        Texts.fault(text, kind, place);
    }

    private static void marked(String rest, int kind) {
        Texts.marked(rest, kind);
    }

    private static void statements() {
        says("A SLOPE is a text: { STATEMENT ; } (100 at most):");
        fine("field 2 2;", 1);
        fine("field 2 2;rope 3;rope 3;", 3);
        fine("field 2 2;" + "rough 1 at 0 0;".repeat(99), 100);
        fault("field 2 2;" + "rough 1 at 0 0;".repeat(99) + "rough 1 at 0 0;", 5, 10 + 99 * 15);
        fault("field 2 2", 1, 9);
        fault("field 2 2;rope 3", 1, 16);
        fault("field 2 2;rope 3 rope 3;", 1, 17);
        fault("field 2 2;;", 1, 10);
        fault("", 1, 0);
    }

    private static void fields() {
        says("field N N (WIDE, HIGH, 2 .. 10 both, 60 cells together at most;");
        for (int wide = 0; wide <= 12; wide++) {
            for (int high = 0; high <= 12; high++) {
                String text = "field " + wide + " " + high + ";";
                if (wide < 2 || wide > 10) {
                    fault(text, 4, 6);
                } else if (high < 2 || high > 10 || wide * high > 60) {
                    fault(text, 4, 7 + ("" + wide).length());
                } else {
                    BoulderDowry x = Check.of(text);
                    due("WIDE of " + text, x.has(7), wide);
                    due("HIGH of " + text, x.has(8), high);
                    due("the last cell of " + text, x.cell(wide * high - 1, 0), 0);
                    due("none behind it in " + text, x.cell(wide * high, 0), NONE);
                }
            }
        }
        says("the first STATEMENT, and it alone);");
        for (String word : OWN_WORDS) {
            if (!word.equals("field")) {
                fault(word + " 2 2;", 1, 0);
            }
        }
        fault("rope 3;field 2 2;", 1, 0);
        fault("field 2 2;field 2 2;", 1, 10);
        fault("field 2 2;rope 3;field 2 2;", 1, 17);
    }

    private static void rows() {
        says("row N .. N (as many as WIDE, heights 0 .. 999;");
        BoulderDowry x = Check.of("field 3 4;row 0 999 500;");
        due("height 0", x.cell(0, 0), 0);
        due("height 999", x.cell(1, 0), 999);
        due("the third", x.cell(2, 0), 500);
        marked("row 0 1!;", 1);
        marked("row!;", 1);
        marked("row 0 1 2 !3;", 1);
        marked("row !1000 0 0;", 4);
        marked("row 0 0 !1000;", 4);
        fine("field 10 2;row 1 2 3 4 5 6 7 8 9 10;", 2);
        fault("field 10 2;row 1 2 3 4 5 6 7 8 9;", 1, 32);
        says("row by row from the top on, HIGH rows at most; 0 where none is told);");
        x = Check.of("field 2 3;row 11 12;rope 1;row 13 14;");
        int[] want = {11, 12, 13, 14, 0, 0};
        for (int i = 0; i < want.length; i++) {
            due("height of place " + i, x.cell(i, 0), want[i]);
        }
        fine("field 2 3;row 1 1;row 1 1;row 1 1;", 4);
        fault("field 2 3;row 1 1;row 1 1;row 1 1;row 1 1;", 5, 34);
        fine("field 2 10;" + "row 1 1;".repeat(10), 11);
        fault("field 2 10;" + "row 1 1;".repeat(11), 5, 91);
    }

    private static void roughs() {
        says("rough N at CELL (1 .. 99; the last one of a cell counts; 0 without);");
        BoulderDowry x = Check.of("field 2 2;rough 1 at 0 0;rough 99 at 1 0;rough 9 at 0 1;rough 3 at 0 1;");
        due("1", x.cell(0, 1), 1);
        due("99", x.cell(1, 1), 99);
        due("the last one, though it is less", x.cell(2, 1), 3);
        due("0 without", x.cell(3, 1), 0);
        marked("rough !0 at 0 0;", 4);
        marked("rough !100 at 0 0;", 4);
    }

    private static void lands() {
        says("owner NAME (6 OWNERS);");
        fine(Texts.FIELD + Texts.times("owner #;", 6), 7);
        marked(Texts.times("owner #;", 6) + "!owner g;", 5);
        says("land NAME at CELL to CELL (an OWNER;");
        marked("land !a at 0 0 to 0 0;", 3);
        marked("stone a weight 1 rest 1 at 0 0;land !a at 0 0 to 0 0;", 3);
        marked("house a worth 1 at 0 0;land !a at 0 0 to 0 0;", 3);
        fine(Texts.FIELD + "owner a;land a at 0 0 to 0 0;", 3);
        says("the second cell neither less across nor less down than the first:");
        fine(Texts.FIELD + "owner a;land a at 1 1 to 1 1;", 3);
        marked("owner a;land a at 1 1 to !0 1;", 4);
        marked("owner a;land a at 1 1 to !0 3;", 4);
        marked("owner a;land a at 1 1 to 1 !0;", 4);
        marked("owner a;land a at 1 1 to 2 !0;", 4);
        marked("owner a;land a at 2 3 to 2 !2;", 4);
        says("all cells between and these;");
        BoulderDowry x = Check.of("field 4 5;owner a;land a at 1 1 to 2 3;");
        for (int i = 0; i < 20; i++) {
            boolean within = i % 4 >= 1 && i % 4 <= 2 && i / 4 >= 1 && i / 4 <= 3;
            due("owner of place " + i, x.cell(i, 2), within ? 0 : NONE);
        }
        x = Check.of("field 10 6;owner a;land a at 0 0 to 9 5;");
        for (int i = 0; i < 60; i++) {
            due("owner of place " + i + " of all", x.cell(i, 2), 0);
        }
        says("the last one of a cell counts; nobody's without);");
        x = Check.of("field 3 2;owner a;owner b;land b at 0 0 to 1 1;land a at 1 0 to 1 1;land b at 1 1 to 1 1;");
        int[] want = {1, 0, NONE, 1, 1, NONE};
        for (int i = 0; i < want.length; i++) {
            due("owner of place " + i, x.cell(i, 2), want[i]);
        }
    }

    private static void stones() {
        says("stone NAME weight N rest N at CELL (1 .. 999, 0 .. 9999; 10 STONES);");
        BoulderDowry x = Check.of(Texts.FIELD + "stone a weight 1 rest 0 at 0 0;stone b weight 999 rest 9999 at 1 0;");
        due("weight 1", x.stone(0, 0), 1);
        due("rest 0", x.stone(0, 1), 0);
        due("weight 999", x.stone(1, 0), 999);
        due("rest 9999", x.stone(1, 1), 9999);
        marked("stone a weight !0 rest 1 at 0 0;", 4);
        marked("stone a weight !1000 rest 1 at 0 0;", 4);
        marked("stone a weight 1 rest 1000!0 at 0 0;", 1);
        fine(Texts.FIELD + Texts.times("stone # weight 1 rest 1 at @;", 10), 11);
        marked(Texts.times("stone # weight 1 rest 1 at @;", 10) + "!stone k weight 1 rest 1 at 2 3;", 5);
        says("house NAME worth N at CELL (1 .. 999; 8 HOUSES);");
        x = Check.of(Texts.FIELD + "house a worth 1 at 0 0;house b worth 999 at 1 0;");
        due("worth 1", x.house(0, 0), 1);
        due("worth 999", x.house(1, 0), 999);
        marked("house a worth !0 at 0 0;", 4);
        marked("house a worth !1000 at 0 0;", 4);
        fine(Texts.FIELD + Texts.times("house # worth 1 at @;", 8), 9);
        marked(Texts.times("house # worth 1 at @;", 8) + "!house i worth 1 at 2 3;", 5);
    }

    private static void counted() {
        says("wall N at CELL (1 .. 9999 that it holds; 16 WALLS);");
        BoulderDowry x = Check.of(Texts.FIELD + "wall 1 at 0 0;wall 9999 at 1 0;");
        due("holds 1", x.cell(0, 4), 1);
        due("holds 9999", x.cell(1, 4), 9999);
        marked("wall !0 at 0 0;", 4);
        marked("wall 1000!0 at 0 0;", 1);
        StringBuilder walls = new StringBuilder("field 3 6;");
        for (int i = 0; i < 16; i++) {
            walls.append("wall 1 at " + i % 3 + " " + i / 3 + ";");
        }
        fine(walls.toString(), 17);
        fault(walls + "wall 1 at 2 5;", 5, walls.length());
        says("thaw N odds N (0 .. 9999, 1 .. 99; 6 THAWS);");
        x = Check.of(Texts.FIELD + "thaw 0 odds 1;thaw 9999 odds 99;");
        due("strength 0", x.thaw(0, 0), 0);
        due("odds 1", x.thaw(0, 1), 1);
        due("strength 9999", x.thaw(1, 0), 9999);
        due("odds 99", x.thaw(1, 1), 99);
        marked("thaw 1000!0 odds 1;", 1);
        marked("thaw 1 odds !0;", 4);
        marked("thaw 1 odds !100;", 4);
        fine(Texts.FIELD + "thaw 1 odds 1;".repeat(6), 7);
        marked("thaw 1 odds 1;".repeat(6) + "!thaw 1 odds 1;", 5);
        says("rope N (1 .. 9999; 9 ROPES);");
        fine(Texts.FIELD + "rope 1;rope 9999;", 3);
        marked("rope !0;", 4);
        marked("rope 1000!0;", 1);
        fine(Texts.FIELD + "rope 1;".repeat(9), 10);
        marked("rope 1;".repeat(9) + "!rope 1;", 5);
        says("due SUM when TEST (8 LAWS).");
        fine(Texts.FIELD + "due 1 when all;".repeat(8), 9);
        marked("due 1 when all;".repeat(8) + "!due 1 when all;", 5);
        x = Check.of(Texts.FIELD + "due 1 when 0=1;".repeat(7) + "due 77 when all;");
        due("the eighth one holds too", x.law(0, 0, 0, 0, 0), 77);
    }

    private static void cells() {
        says("CELL: N N, across below WIDE, down below HIGH;");
        String[] ahead = {"rough 1 at ", "owner a;land a at 0 0 to ", "stone a weight 1 rest 1 at ", "house a worth 1 at ", "wall 1 at "};
        for (String one : ahead) {
            fine("field 3 4;" + one + "2 3;", one.startsWith("owner") ? 3 : 2);
            fine("field 3 4;" + one + "0 0;", one.startsWith("owner") ? 3 : 2);
            marked(one + "!3 0;", 4);
            marked(one + "2 !4;", 4);
            marked(one + "!9999 0;", 4);
            marked(one + "0 !9999;", 4);
            marked(one + "0!;", 1);
            marked(one + "0 0 !0;", 1);
        }
        marked("owner a;land a at !3 0 to 2 3;", 4);
        marked("owner a;land a at 0 !4 to 2 3;", 4);
        says("for a STONE, a HOUSE, a WALL one without any of these.");
        String[] there = {"stone s weight 1 rest 1 at 1 2;", "house h worth 1 at 1 2;", "wall 7 at 1 2;"};
        for (String one : there) {
            marked(one + "stone a weight 1 rest 1 at 1 !2;", 4);
            marked(one + "house a worth 1 at 1 !2;", 4);
            marked(one + "wall 7 at 1 !2;", 4);
            fine(Texts.FIELD + one + "rough 7 at 1 2;owner a;land a at 1 2 to 1 2;", 5);
            fine(Texts.FIELD + one + "stone a weight 1 rest 1 at 2 1;house b worth 1 at 1 1;wall 7 at 2 2;", 5);
        }
        says("A place is a cell's number: down times WIDE, and across.");
        BoulderDowry x = Check.of(Texts.FIELD + "stone a weight 1 rest 1 at 2 3;stone b weight 1 rest 1 at 1 0;house c worth 1 at 0 2;");
        due("2 3 is 3 times 3, and 2", x.stone(0, 2), 11);
        due("1 0 is 1", x.stone(1, 2), 1);
        due("0 2 is 2 times 3", x.house(0, 1), 6);
    }

    private static void namesAndNumbers() {
        says("NAMES: 1 to 6 letters.");
        BoulderDowry x = Check.of(Texts.FIELD + "owner a;owner abcdef;owner zyxwvu;owner z;");
        due("one letter", x.letter(0, 0, 0), 1);
        due("no second letter", x.letter(0, 0, 1), 0);
        due("six letters", x.letter(0, 1, 5), 6);
        due("z", x.letter(0, 3, 0), 26);
        marked("owner !;", 1);
        marked("owner abcdef!g;", 1);
        marked("owner !1;", 1);
        marked("owner a!1;", 1);
        marked("owner !A;", 1);
        marked("owner a!B;", 1);
        marked("owner !_;", 1);
        marked("owner !`;", 1);
        marked("owner !{;", 1);
        says("NUMBERS: 1 to 4 digits.");
        fine(Texts.FIELD + "rope 9;rope 0009;rope 9999;", 4);
        due("0012 is 12", Check.of(Texts.FIELD + "wall 0012 at 00 0001;").cell(3, 4), 12);
        marked("rope !;", 1);
        marked("rope 9999!9;", 1);
        marked("rope 0000!9;", 1);
        marked("rope !-9;", 1);
        marked("rope !/;", 1);
        marked("rope !:;", 1);
        marked("rope 9!.9;", 1);
    }

    private static void blanks() {
        says("Blanks (10, 32) are where one likes (words and numbers side by side need one).");
        fine(" \n \nfield\n2\n\n2 \n;\n owner a ;land a at 0 0\nto 1 1;due ( 1+ 2 )*3 when [ 1 < 2 ] ; \n ", 4);
        fine("field 2 2;due(1+2)*3 when[1<2]and all;", 2);
        marked("rope!9;", 1);
        marked("rope 9;rough 1!at 0 0;", 1);
        marked("rough 1 at!0 0;", 1);
        marked("due 1!when all;", 1);
        marked("due weight!7 when all;", 1);
        marked("!ro pe 9;", 1);
        marked("rope 9 !9;", 1);
        for (int sign = 0; sign < 256; sign++) {
            String text = "field 2 2;" + (char) sign + "rope 1;";
            if (sign == 10 || sign == 32) {
                fine(text, 2);
            } else {
                fault(text, 1, 10);
            }
        }
    }

    private static void ownWords() {
        says("OWN WORDS, which no NAME is: field, row, rough, at, owner, land, to, stone, weight, rest, house, worth, wall, thaw, odds, "
                + "rope, due, when, or, and, not, all, speed, steps, min, max.");
        due("own words", OWN_WORDS.length, 26);
        for (String word : OWN_WORDS) {
            marked("owner !" + word + ";", 1);
            marked("stone !" + word + " weight 1 rest 1 at 0 0;", 1);
            marked("house !" + word + " worth 1 at 0 0;", 1);
            marked("land !" + word + " at 0 0 to 0 0;", 1);
            fine(Texts.FIELD + "owner " + word.substring(0, word.length() - 1) + ";", 2);
            if (word.length() < 6) {
                fine(Texts.FIELD + "owner " + word + "x;", 2);
            }
        }
        says("NAMES are unlike ones (of all sorts), told ahead of where they are asked.");
        String[] sorts = {"owner !a;", "stone !a weight 1 rest 1 at 0 0;", "house !a worth 1 at 0 1;"};
        for (String first : sorts) {
            for (String second : sorts) {
                marked(first.replace("!", "") + second, 2);
                fine(Texts.FIELD + first.replace("!", "") + second.replace("!a", "aa").replace("at 0 ", "at 1 "), 3);
            }
        }
        marked("land !a at 0 0 to 0 0;owner a;", 3);
    }

    private static void faults() {
        says("FAULTS, the first along the text:");
        marked("rope !0;rope 1 x;owner at;", 4);
        marked("rope 1 !x;rope 0;", 1);
        marked("owner a;owner !a x;land b at 9 9 to 0 0;", 2);
        marked("land !b at 9 9 to 0 0;owner a;owner a;", 3);
        marked("rope 1;".repeat(9) + "!rope 0;land b", 5);
        marked("stone a weight !0 rest 99999 at 9 9", 4);
        BoulderDowry x = Check.of("field 2 2;");
        due("without a fault", x.fault(0), 0);
        due("without a fault there is no place", x.fault(1), NONE);
        says("1 the first byte with which no SLOPE goes on");
        marked("!,rope 1;", 1);
        marked("rope!,1;", 1);
        marked("rope 1!,;", 1);
        marked("rope 1;!)", 1);
        marked("rough 1 !0 0;", 1);
        marked("rough 1 !3 0 0;", 1);
        marked("rough 1 !to 0 0;", 1);
        marked("owner a;land a !0 0 to 0 0;", 1);
        marked("owner a;land a at 0 0 !1 1;", 1);
        marked("owner a;land a at 0 0 !at 1 1;", 1);
        marked("stone a !1 rest 1 at 0 0;", 1);
        marked("stone a !worth 1 rest 1 at 0 0;", 1);
        marked("stone a weight 1 !1 at 0 0;", 1);
        marked("stone a weight 1 rest 1 !0 0;", 1);
        marked("house a !1 at 0 0;", 1);
        marked("house a !weight 1 at 0 0;", 1);
        marked("house a worth 1 !0 0;", 1);
        marked("wall 1 !0 0;", 1);
        marked("thaw 1 !1;", 1);
        marked("thaw 1 !14 1;", 1);
        marked("due 1 !all;", 1);
        marked("due 1 !17 all;", 1);
        marked("!" + (char) 0 + ";", 1);
        marked("!" + (char) 255 + ";", 1);
        marked("owner a!" + (char) 233 + ";", 1);
        marked("due 1 when 1!;", 1);
        marked("due 1 when all !when all;", 1);
    }

    private static void faultsOfSyntax() {
        says("(WORDS, NUMBERS whole, at their first byte;");
        fault("fiel", 1, 0);
        fault(" fields 2 2;", 1, 1);
        marked("rope 1;!rop 1;", 1);
        marked("rope 1;!ropes 1;", 1);
        marked("rough 1 !atat 0 0;", 1);
        marked("rough 1 !a 0 0;", 1);
        marked("row 1 2 3 !4567;", 1);
        marked("!1234;", 1);
        marked("thaw 1 !od 1;", 1);
        marked("due 1 when !al;", 1);
        marked("due max !when all;", 1);
        says("at the text's length, if it ends too soon;");
        fault("", 1, 0);
        fault(" \n", 1, 2);
        String text = "field 2 2;owner a;land a at 0 0 to 1 1;due min(1,(2))when[not 1<2]";
        for (int end = 0; end <= text.length(); end++) {
            boolean inWord = end > 0 && end < text.length() && isWordy(text.charAt(end - 1)) && isWordy(text.charAt(end));
            boolean whole = end > 0 && text.charAt(end - 1) == ';';
            if (!inWord && !whole) {
                fault(text.substring(0, end), 1, end);
                fault(text.substring(0, end) + "\n ", 1, end + 2);
            }
        }
        says("a 7th letter, a 5th digit at itself, whatever may stand there;");
        marked("owner abcdef!g;", 1);
        marked("owner abcdef!ghijklmnop;", 1);
        marked("land abcdef!g at 0 0 to 0 0;", 1);
        marked("rope abcdef!g;", 1);
        marked("abcdef!g 1;", 1);
        marked("rope 1 abcdef!g;", 1);
        marked("rope 1234!5;", 1);
        marked("rope 0000!0;", 1);
        marked("rope 1234!567890123;", 1);
        marked("owner 1234!5;", 1);
        marked("1234!5;", 1);
        marked("due 1234!5 when all;", 1);
        marked("due weight!s when all;", 1);
        marked("stone a weight!s 1 rest 1 at 0 0;", 1);
        says("an OWN WORD where a NAME must be);");
        marked("owner !owner;", 1);
        marked("land !at at 0 0 to 0 0;", 1);
        marked("stone !weight 1 rest 1 at 0 0;", 1);
        marked("house !worth 1 at 0 0;", 1);
    }

    private static boolean isWordy(char sign) {
        return sign >= 'a' && sign <= 'z' || sign >= '0' && sign <= '9';
    }

    private static void faultsOfNamesAndNumbers() {
        says("2 a NAME to be given that is there already, at its first byte;");
        marked("owner abc;owner \n !abc;", 2);
        marked("owner abc;owner ab;owner abcd;stone !abc weight 0", 2);
        marked("owner abc;owner !abc", 2);
        marked("owner abcdef;house !abcdef", 2);
        says("3 a NAME that is no OWNER's where one is asked, at its first byte;");
        marked("land !abc at 9 9 to 0 0;", 3);
        marked("owner abc;land !ab at 0 0 to 0 0;", 3);
        marked("owner abc;land !abcd at 0 0 to 0 0;", 3);
        marked("land !abc", 3);
        says("4 a NUMBER that can't be, at its first byte");
        marked("rope  !0000;", 4);
        marked("rough !0100 at 0 0;", 4);
        marked("rough 1 at !0003 0;", 4);
        marked("row 0 !9999 1000;", 4);
        marked("wall !0", 4);
        says("(of a cell that is not free, the second one);");
        marked("wall 1 at 2 3;wall 1 at 02 !0003;", 4);
        marked("wall 1 at 2 3;stone a weight 1 rest 1 at 2 !3", 4);
        marked("stone a weight 1 rest 1 at 2 3;house b worth 1 at 2 !3 ,", 4);
    }

    private static void faultsOfTooMany() {
        says("5 one too many of a kind of STATEMENT,");
        marked("row 1 1 1;".repeat(4) + " \n!row", 5);
        marked(Texts.times("owner #;", 6) + "!owner", 5);
        marked(Texts.times("stone # weight 1 rest 1 at @;", 10) + "!stone,", 5);
        marked(Texts.times("house # worth 1 at @;", 8) + "!house 9;", 5);
        marked("thaw 1 odds 1;".repeat(6) + "!thaw thaw", 5);
        marked("rope 1;".repeat(9) + "!rope 0;", 5);
        marked("due 1 when all;".repeat(8) + "!due", 5);
        fine(Texts.FIELD + "owner a;" + "land a at 0 0 to 0 0;".repeat(40) + "rough 1 at 0 0;".repeat(40), 82);
        says("or the 101st STATEMENT (whatever it is), at its first byte;");
        String hundred = Texts.FIELD + Texts.times("rough 1 at 0 0;", 99);
        fine(hundred + " \n", 100);
        for (String more : new String[] {"rough 1 at 0 0;", "field 2 2;", "owner a;", "rope 0;", "name;", "abcdefgh;", "12345;", "rope"}) {
            fault(hundred + more, 5, hundred.length());
            fault(hundred + "\n " + more, 5, hundred.length() + 2);
        }
        says("a 9th ( [ that is open at once, at itself.");
        fine(Texts.FIELD + "due ((((((((1)))))))) when [[[[[[[[all]]]]]]]];", 2);
        fine(Texts.FIELD + "due ((((((((1))))))))+((((((((1)))))))) when [[[[((((1))))=min(max(min(max(1,2),3),4),5)]]]];", 2);
        marked("due ((((((((!(1))))))))) when all;", 5);
        marked("due 1 when [[[[[[[[![all]]]]]]]]];", 5);
        marked("due 1 when [[[[[[[[!(1)=1]]]]]]]];", 5);
        marked("due 1 when [[[[((((!(1)))))=1]]]];", 5);
        marked("due min(min(min(min(min(min(min(min(min!(1,", 5);
        marked("due max(1,(((((((!(1", 5);
        marked("due ((((((((![", 1);
    }
}
