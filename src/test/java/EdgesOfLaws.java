/** Term I, what a due is: sums and tests, sentence by sentence. */
final class EdgesOfLaws {
    private EdgesOfLaws() {
    }

    static void all() {
        tests();
        facts();
        sums();
        parts();
        numbers();
    }

    private static void says(String words) {
        Says.says("I", words);
    }

    private static void marked(String rest, int kind) {
        Texts.marked(rest, kind);
    }

    /** What a sum is for weight 2, speed 3, worth 5, wall 1, steps 7. */
    private static void sum(String sum, int want) {
        Check.due(sum, Check.of("field 2 2;due " + sum + " when all;").law(2, 3, 5, 1, 7), want);
    }

    private static void holds(String test, boolean want) {
        Check.due(test, Check.of("field 2 2;due 1 when " + test + ";").law(2, 3, 5, 1, 7) == 1, want);
    }

    private static void tests() {
        says("TEST: BOTH { or BOTH }.");
        holds("all or all", true);
        holds("all or 0=1", true);
        holds("0=1 or all", true);
        holds("0=1 or 0=1", false);
        holds("0=1 or 0=1 or all", true);
        holds("0=1 or 0=1 or 0=1", false);
        marked("due 1 when !or all;", 1);
        marked("due 1 when all or!;", 1);
        marked("due 1 when all or !or all;", 1);
        says("BOTH: FACT { and FACT }.");
        holds("all and all", true);
        holds("all and 1=1", true);
        holds("1=1 and all", true);
        holds("1=1 and not 0=1", true);
        holds("all and 0=1", false);
        holds("0=1 and all", false);
        holds("0=1 and 0=1", false);
        holds("all and all and 0=1", false);
        holds("all and all and all", true);
        holds("all or 0=1 and 0=1", true);
        holds("0=1 and 0=1 or all", true);
        marked("due 1 when !and all;", 1);
        marked("due 1 when all and!;", 1);
        marked("due 1 when all and !or all;", 1);
    }

    private static void facts() {
        says("FACT: not FACT;");
        holds("not all", false);
        holds("not 0=1", true);
        holds("not not all", true);
        holds("not not not all", false);
        holds("not all or all", true);
        holds("not 0=1 and 0=1", false);
        Check.due("300 of them", Check.of("field 2 2;due 1 when " + "not ".repeat(300) + "all;").law(0, 0, 0, 0, 0), 1);
        Check.due("301 of them", Check.of("field 2 2;due 1 when " + "not ".repeat(301) + "all;").law(0, 0, 0, 0, 0), 0);
        marked("due 1 when not!;", 1);
        marked("due 1 when all !not all;", 1);
        says("[ TEST ] ;");
        holds("[all]", true);
        holds("[0=1]", false);
        holds("[all or all] and 0=1", false);
        holds("not [0=1 and 0=1]", true);
        holds("not [0=1 or all]", false);
        holds("[[[all]and[all]]]", true);
        marked("due 1 when [!];", 1);
        marked("due 1 when [all!;", 1);
        marked("due 1 when [all]!];", 1);
        marked("due 1 when [all!);", 1);
        says("all;");
        holds("all", true);
        marked("due 1 when all!=1;", 1);
        says("SUM SIGN SUM, SIGN < or > or = .");
        holds("1<2", true);
        holds("2<2", false);
        holds("3<2", false);
        holds("1>2", false);
        holds("2>2", false);
        holds("3>2", true);
        holds("1=2", false);
        holds("2=2", true);
        holds("3=2", false);
        holds("0-1<0", true);
        holds("1+1=3-1", true);
        marked("due 1 when 1!;", 1);
        marked("due 1 when 1<!;", 1);
        marked("due 1 when !<1;", 1);
        marked("due 1 when 1<!=1;", 1);
        marked("due 1 when 1<1!<1;", 1);
        marked("due 1 when 1 !1;", 1);
    }

    private static void sums() {
        says("SUM: PRODUCT { + PRODUCT, or - PRODUCT }.");
        sum("8", 8);
        sum("8+1", 9);
        sum("8-1", 7);
        sum("8+1-2+3-4", 6);
        sum("2*3+4*5", 26);
        sum("20-4*5", 0);
        marked("due !+1 when all;", 1);
        marked("due !-1 when all;", 1);
        marked("due 1+!when all;", 1);
        marked("due 1+!-1 when all;", 1);
        says("PRODUCT: PART { * PART, or / PART, or % PART }.");
        sum("6*7", 42);
        sum("42/6", 7);
        sum("44%6", 2);
        sum("2*3*4/5%3", 1);
        marked("due !*1 when all;", 1);
        marked("due 1/!when all;", 1);
        marked("due 1%!*1 when all;", 1);
    }

    private static void parts() {
        says("PART: N; weight; speed; worth; wall; steps; ( SUM ) ;");
        sum("0", 0);
        sum("9999", 9999);
        sum("weight", 2);
        sum("speed", 3);
        sum("worth", 5);
        sum("wall", 1);
        sum("steps", 7);
        sum("(4)", 4);
        sum("2*(3+4)", 14);
        sum("20-(4-(2-1))", 17);
        marked("due !rest when all;", 1);
        marked("due !abc when all;", 1);
        marked("due (!) when all;", 1);
        marked("due (1!; when all;", 1);
        marked("due 1!) when all;", 1);
        marked("due (1!] when all;", 1);
        marked("due ![1] when all;", 1);
        says("min ( SUM , SUM ) ; max ( SUM , SUM ) .");
        sum("min(3,4)", 3);
        sum("min(4,3)", 3);
        sum("max(3,4)", 4);
        sum("max(4,3)", 4);
        sum("min(3,3)+max(4,4)", 7);
        sum("max(0-3,0-4)+9", 6);
        sum("min(2+3,2*3)", 5);
        sum("max(min(1,2),min(3,4))", 3);
        marked("due min !1,2 when all;", 1);
        marked("due min(1!) when all;", 1);
        marked("due max(1,2!,3) when all;", 1);
        marked("due max(1,!) when all;", 1);
        marked("due max(1,2!; when all;", 1);
        marked("due max![1,2] when all;", 1);
    }

    private static void numbers() {
        says("All from the left on;");
        sum("10-3-2", 5);
        sum("9-4+3", 8);
        sum("100/10/5", 2);
        sum("100/10*5", 50);
        sum("100*5/10", 50);
        sum("17%10%4", 3);
        sum("7*5%4", 3);
        says("/ gives the greatest whole number not above, % what then lacks");
        sum("7/2", 3);
        sum("8/2", 4);
        sum("(0-7)/2+100", 96);
        sum("(0-8)/2+100", 96);
        sum("7/(0-2)+100", 96);
        sum("(0-7)/(0-2)", 3);
        sum("7%2", 1);
        sum("8%2", 0);
        sum("(0-7)%2", 1);
        sum("(0-8)%2", 0);
        sum("7%(0-2)+100", 99);
        sum("(0-7)%(0-2)+100", 99);
        sum("(0-1)/9999+100", 99);
        sum("(0-1)%9999", 9998);
        says("(by 0 both give 0);");
        sum("7/0+4", 4);
        sum("7%0+4", 4);
        sum("(0-7)/(1-1)+4", 4);
        sum("(0-7)%(1-1)+4", 4);
        sum("0/0+0%0+4", 4);
        says("each sum, difference, product above 10 to the 6 is that, below -10 to the 6 likewise.");
        sum("9999*100+100-9999*100", 100);
        sum("9999*100+101-9999*100", 100);
        sum("9999*9999-9999*100", 100);
        sum("1000*1000-9999*100", 100);
        sum("9999*100-(0-101)-9999*100", 100);
        sum("0-9999*100-100+9999*100+1000", 900);
        sum("0-9999*100-101+9999*100+1000", 900);
        sum("(0-9999)*100+(0-101)+9999*100+1000", 900);
        sum("(0-9999)*9999+9999*100+1000", 900);
        holds("9999*9999*(9999*9999)=1000*1000", true);
        holds("(0-9999*9999)*(9999*9999)=0-1000*1000", true);
        holds("(0-9999*9999)*(0-9999*9999)=1000*1000", true);
        holds("9999*9999+9999*9999=1000*1000", true);
        holds("0-9999*9999-9999*9999=0-1000*1000", true);
    }
}
