import java.util.Random;

/** Promises 4 and 5: which texts are slopes, and where the first fault of the others is. */
public final class FaultTest {
    private static final String F = Texts.FIELD;

    private static void fault(String text, int kind, int place) {
        Texts.fault(text, kind, place);
    }

    private static void marked(String rest, int kind) {
        Texts.marked(rest, kind);
    }

    private static void fine(String text, int statements) {
        Texts.fine(text, statements);
    }

    private static String times(String part, int n) {
        return Texts.times(part, n);
    }

    private static void whole() {
        fine("field 2 2;", 1);
        fine(" \n field\n2 2 \n;\n", 1);
        fine("field 02 0010;", 1);
        fine("field 10 6;", 1);
        fine("field 6 10;row 1 2 3 4 5 6;", 2);
        fine(F + "owner abcdef;land abcdef at 2 3 to 2 3;", 3);
        fine(F + "stone a weight 999 rest 9999 at 0 0;stone b weight 1 rest 0 at 2 3;", 3);
        fine(F + "house a worth 1 at 0 0;wall 1 at 0 1;wall 9999 at 0 2;rough 99 at 0 0;", 5);
        fine(F + "thaw 0 odds 1;thaw 9999 odds 99;rope 1;rope 9999;", 5);
        fine(F + "due(weight)when(speed)<(worth);", 2);
        fine(F + "due min(weight,speed)+max(wall,steps)when not not[all and not[weight>1 or all]];", 2);
        fine(F + "due ((((((((1)))))))) when [[[[[[[(1)=1 or all]]]]]]] and (1)=1;", 2);
    }

    private static void syntax() {
        fault("", 1, 0);
        fault("  \n ", 1, 4);
        fault(";".repeat(1600), 1, 0);
        fault(F + "due " + "1+".repeat(793), 1, 1600);
        fine(F + "due " + "1+".repeat(787) + "1 when all;", 2);
        fault("row 1 2;", 1, 0);
        fault("  fields 2 2;", 1, 2);
        fault("Field 2 2;", 1, 0);
        fault("field 2 2", 1, 9);
        fault("field 2 2  ", 1, 11);
        fault("field 2 2 3;", 1, 10);
        fault("field 2;", 1, 7);
        fault("field 2 2;;", 1, 10);
        fault("\tfield 2 2;", 1, 0);
        fault("field2 2;", 1, 5);
        fault("field 2 2;owner" + (char) 233 + ";", 1, 15);
        marked("!field 2 2;", 1);
        marked("!weight 3;", 1);
        marked("!ann 3;", 1);
        marked("!3;", 1);
        marked("row 1 2!;", 1);
        marked("row 1 2 3 !4;", 1);
        marked("row 1 2 !x;", 1);
        marked("rough 1 !0 0;", 1);
        marked("rough 1!at 0 0;", 1);
        marked("rough 1 at 0!;", 1);
        marked("rough 1 at 0!,", 1);
        marked("owner !owner;", 1);
        marked("owner !max;", 1);
        marked("owner !;", 1);
        marked("owner !1;", 1);
        marked("owner a!1;", 1);
        marked("owner abcdef!g;", 1);
        marked("owner weight!s;", 1);
        marked("owner a !b;", 1);
        marked("owner a; land a at 0 0 !;", 1);
        marked("owner a; land a at 0 0 to 1 !;", 1);
        marked("land !to;", 1);
        marked("land!", 1);
        marked("stone s !rest 1;", 1);
        marked("stone s weight 1 !at 0 0;", 1);
        marked("stone s weight !;", 1);
        marked("house h !weight 3;", 1);
        marked("wall !at 0 0;", 1);
        marked("thaw 3!;", 1);
        marked("thaw 3 odds!", 1);
        marked("rope 1234!5;", 1);
        marked("rope 0000!1;", 1);
        marked("rope 1 abcdef!gh;", 1);
        marked("rope 1; abcdef!gh;", 1);
        marked("rope!,1;", 1);
    }

    private static void lawSyntax() {
        marked("due !when all;", 1);
        marked("due 1 !all;", 1);
        marked("due 1 when !;", 1);
        marked("due 1 when 1!;", 1);
        marked("due 1 when 1<!;", 1);
        marked("due 1 when 1<2!<3;", 1);
        marked("due 1 when all !all;", 1);
        marked("due 1 when all and!;", 1);
        marked("due 1 when all or !or all;", 1);
        marked("due 1 when [all!;", 1);
        marked("due 1 when [all]!];", 1);
        marked("due 1 when [all!);", 1);
        marked("due 1 when (!all);", 1);
        marked("due 1 when (1!=1);", 1);
        marked("due 1 when [1!]=1;", 1);
        marked("due !-1 when all;", 1);
        marked("due 1+!+1 when all;", 1);
        marked("due 1*!when all;", 1);
        marked("due ![1] when all;", 1);
        marked("due (1!; when all;", 1);
        marked("due min!1,2) when all;", 1);
        marked("due min(1!) when all;", 1);
        marked("due max(1,2!,3) when all;", 1);
        marked("due 1!) when all;", 1);
        marked("due !rest when all;", 1);
        marked("due 1!weight when all;", 1);
        marked("due weight!1 when all;", 1);
        marked("due 1234!5 when all;", 1);
        marked("due 1 when not !;", 1);
        marked("due 1 when not !or all;", 1);
        marked("due 1 when 1 > != 2;", 1);
    }

    private static void names() {
        marked("owner a;owner !a;", 2);
        marked("owner a;stone !a weight 1 rest 1 at 0 0;", 2);
        marked("stone a weight 1 rest 1 at 0 0;house !a worth 1 at 0 1;", 2);
        marked("house a worth 1 at 0 1;owner !a", 2);
        marked("house a worth 1 at 0 1;stone b weight 1 rest 1 at 0 0;stone !b weight 0", 2);
        marked("land !a at 0 0 to 0 0;", 3);
        marked("stone a weight 1 rest 1 at 0 0;land !a at 9 9 to 0 0;", 3);
        marked("land !a1;", 3);
        marked("owner ab;land !abc at 0 0 to 0 0;owner abc;", 3);
        fine(F + "owner a;owner aa;owner ab;land aa at 0 0 to 2 3;", 5);
    }

    private static void numbers() {
        fault("field 1 2;", 4, 6);
        fault("field 11 2;", 4, 6);
        fault("field 2 1;", 4, 8);
        fault("field 2 11x", 4, 8);
        fault("field 10 7;", 4, 9);
        fault("field 7 9;", 4, 8);
        marked("row 0 999 !1000;", 4);
        marked("rough !0 at 0 0;", 4);
        marked("rough !100 at 9 9;", 4);
        marked("rough 99 at !3 0;", 4);
        marked("rough 99 at 2 !4;", 4);
        marked("owner a;land a at 1 1 to !0 1;", 4);
        marked("owner a;land a at 1 1 to 1 !0;", 4);
        marked("owner a;land a at 1 1 to !3 3;", 4);
        marked("owner a;land a at 1 1 to 2 !4;", 4);
        marked("stone s weight !0 rest 1 at 0 0;", 4);
        marked("stone s weight !1000 rest 1 at 0 0;", 4);
        marked("stone s weight 1 rest 0 at !3 0;", 4);
        marked("stone s weight 1 rest 1 at 0 0;stone t weight 1 rest 1 at 0 !0;", 4);
        marked("house h worth !0 at 0 0;", 4);
        marked("house h worth !1000 at 0 0;", 4);
        marked("house h worth 1 at 0 0;wall 1 at 0 !0x", 4);
        marked("wall !0 at 0 0;", 4);
        marked("wall 1 at 1 0;house h worth 1 at 1 !0;", 4);
        marked("wall 1 at 1 0;wall 1 at 1 !0;", 4);
        marked("thaw 0 odds !0;", 4);
        marked("thaw 0 odds !100;", 4);
        marked("rope !0;", 4);
    }

    private static void tooMany() {
        marked("row 1 1 1;row 1 1 1;row 1 1 1;row 1 1 1;!row 1 1 1;", 5);
        marked(times("owner #;", 6) + " !owner a;", 5);
        marked(times("stone # weight 1 rest 1 at @;", 10) + "\n!stone", 5);
        marked(times("house # worth 1 at @;", 8) + "!house 1", 5);
        String wide = "field 5 4;";
        StringBuilder walls = new StringBuilder(wide);
        for (int i = 0; i < 16; i++) {
            walls.append("wall 7 at " + i % 5 + " " + i / 5 + ";");
        }
        fine(walls.toString(), 17);
        fault(walls + "wall 7 at 4 3;", 5, walls.length());
        marked(times("thaw 1 odds 1;", 6) + "!thaw 1 odds 1;", 5);
        marked(times("rope 1;", 9) + "!rope 1;", 5);
        marked(times("due 1 when all;", 8) + "!due 1 when all;", 5);
        String hundred = F + times("rough 1 at 0 0;", 99);
        fine(hundred + " \n", 100);
        fault(hundred + " rope 1;", 5, hundred.length() + 1);
        fault(hundred + "abcdefgh;", 5, hundred.length());
        fault(hundred + " ;", 5, hundred.length() + 1);
        fault(hundred + "rope", 5, hundred.length());
        fault(F + times("rough 1 at 0 0;", 98) + "abcdefgh;", 1, F.length() + 98 * 15 + 6);
        marked("due ((((((((!(1))))))))) when all;", 5);
        marked("due 1 when [[[[[[[[!(1)=1]]]]]]]];", 5);
        marked("due 1 when [[[[[[[[![all]]]]]]]]];", 5);
        marked("due 1 when [[[[((((min!(1,2)))))=1]]]];", 5);
        marked("due min(1,(((((((!(1", 5);
        marked("due max((((((((!(1", 5);
        marked("due (((((((max(1,!(1", 5);
        fine(F + "due min((((((((1))))))),(((((((1)))))))) when all;", 2);
        marked("due ((((((((1!(2", 1);
        marked("due ((((((((![2", 1);
        fine(F + "due ((((((((1))))))))+((((((((2)))))))) when [[[[min(((max(1,2))),3)>1]]]];", 2);
    }

    /** Whatever is faulty, the text ahead of the fault is one that could go on (or a whole slope). */
    private static void prefixes() {
        String text = "field 4 3;row 9 8 7 6;row 5 5 5 5;owner ann;owner bob;land ann at 0 0 to 3 1;land bob at 0 2 to 3 2;"
                + "stone s weight 12 rest 3 at 0 0;house h worth 77 at 0 2;wall 300 at 1 1;rough 5 at 2 2;"
                + "thaw 10 odds 3;rope 44;due max(1,(worth-2)*3)%7 when not[speed>3 or all]and 1<2;";
        String signs = "abz;;  [](),+-*/%<=>019\n!A";
        Random random = new Random(7);
        BoulderDowry x = new BoulderDowry();
        for (int i = 0; i < 20000; i++) {
            StringBuilder some = new StringBuilder(text);
            for (int k = 0; k <= random.nextInt(2); k++) {
                int at = random.nextInt(some.length());
                char sign = signs.charAt(random.nextInt(signs.length()));
                switch (random.nextInt(3)) {
                    case 0:
                        some.setCharAt(at, sign);
                        break;
                    case 1:
                        some.insert(at, sign);
                        break;
                    default:
                        some.deleteCharAt(at);
                        break;
                }
            }
            if (Check.tell(x, some.toString()) != BoulderDowry.NONE) {
                continue;
            }
            int place = x.fault(1);
            Check.due("fault within the text", place >= 0 && place <= some.length(), true);
            if (place > 0 && !Character.isLetterOrDigit(some.charAt(place - 1))) {
                if (Check.tell(x, some.substring(0, place)) == BoulderDowry.NONE) {
                    Check.due("fault ahead of a fault in " + some, x.fault(0), 1);
                    Check.due("its place in " + some, x.fault(1), place);
                }
            }
        }
    }

    public static void main(String[] args) {
        whole();
        syntax();
        lawSyntax();
        names();
        numbers();
        tooMany();
        prefixes();
        Check.finish("FaultTest");
    }
}
