/** Promises 4 and 5: teach and errorAt, over the language's grammar and errors. */
public final class TeachTest {
    public static void main(String[] args) {
        rightOnes();
        tokens();
        grammar();
        depth();
        tokenCount();
        taken();
        unknown();
        tooMany();
        outOfRange();
        firstError();
        allStays();
        allBeginsAnew();
        Check.finish();
    }

    private static void rightOnes() {
        Check.holds("");
        Check.holds(" \n ");
        Check.holds("seats 2 layers 10;");
        Check.holds("seats 8 layers 2;\n");
        Check.holds("seats\n000004layers 000006;dig 1;prop 2;free 3;");
        Check.holds("empire a from 0 to 0; empire b2 from 999 to 999; crumbs in 0,0 of b2; coin in 3,5 year 999; spring in 3,5;");
        Check.holds("empire a from 1 to 2; dig day+found-slides*props/first of a when last of a<height(3)or not seen a and sure 1;");
        Check.holds("dig min(1,2) when [max(day, 3) >= 2 or [day <= 1]] and not not day = -1;");
        Check.holds("dig -1--1- -1;");
        Check.holds("dig 1 when sure 1 + 2 * day and sure -1;");
    }

    private static void tokens() {
        Check.holds("empire abcdefghij from 1 to 2; empire abcdefghik from 1 to 2;");
        Check.fails(1, "empire ^abcdefghijk from 1 to 2;");
        Check.holds("empire zaz09za from 1 to 2; crumbs in 0,0 of zaz09za; empire z from 1 to 2; empire z0 from 1 to 2;");
        Check.fails(3, "empire az from 1 to 2; crumbs in 0,0 of ^za;");
        Check.fails(3, "empire z from 1 to 2; crumbs in 0,0 of ^z0;");
        Check.holds("dig 123456;");
        Check.fails(1, "dig ^1234567;");
        Check.fails(1, "dig ^0000001;");
        Check.fails(1, "dig 12^ab;");
        Check.fails(1, "^seats4 layers 6;");
        Check.fails(1, "dig 1 when day < ^= 2;");
        Check.fails(1, "dig 1 when day = ^< 2;");
        Check.fails(1, "dig 1 when day >^> 2;");
        Check.fails(1, "dig 1 when day <=^= 2;");
        Check.fails(1, "^Dig 1;");
        Check.fails(1, "^dIg 1;");
        Check.fails(1, "dig^Ig 1;");
        Check.fails(1, "dig ^\t1;");
        Check.fails(1, "dig 1 ^# 2;");
        Check.fails(1, "dig 1 ^! 2;");
        Check.fails(1, "dig 1;^\u0000");
        Check.holds("empire days from 1 to 2; empire inn from 1 to 2; empire i from 1 to 2; empire o1 from 1 to 2; empire seatss from 1 to 2; empire maxi from 1 to 2;");
        for (String keyword : ("seats layers empire from to coin crumbs spring in year of dig prop free when day found slides "
            + "props first last height seen sure not and or min max").split(" ")) {
            Check.fails(1, "empire ^" + keyword + " from 1 to 2;");
        }
    }

    private static void grammar() {
        Check.fails(1, "dig 1^");
        Check.fails(1, "dig 1 \n ^");
        Check.fails(1, "dig^");
        Check.fails(1, "dig^;");
        Check.fails(1, "dig 1;^;");
        Check.fails(1, "^;");
        Check.fails(1, "^rome;");
        Check.fails(1, "^1;");
        Check.fails(1, "seats ^;");
        Check.fails(1, "seats 4 ^;");
        Check.fails(1, "seats 4 layers 6 ^dig 1;");
        Check.fails(1, "dig 1; ^seats 4 layers 6;");
        Check.fails(1, "seats 4 layers 6; ^seats 4 layers 6;");
        Check.fails(1, "^layers 6;");
        Check.fails(1, "empire a ^1 to 2;");
        Check.fails(1, "empire a from 1 ^2;");
        Check.fails(1, "empire a from ^-1 to 2;");
        Check.fails(1, "coin ^0, 0 year 1;");
        Check.fails(1, "coin in 0 ^0 year 1;");
        Check.fails(1, "coin in 0, 0 ^of a;");
        Check.fails(1, "crumbs in 0, 0 ^year 1;");
        Check.fails(1, "spring in 0, 0 ^year 1;");
        Check.fails(1, "coin in ^day, 0 year 1;");
        Check.fails(1, "dig 1 ^1;");
        Check.fails(1, "dig 1 +^;");
        Check.fails(1, "dig ^+ 1;");
        Check.fails(1, "dig (1^;");
        Check.fails(1, "dig 1^);");
        Check.fails(1, "dig (^);");
        Check.fails(1, "dig first ^day;");
        Check.fails(1, "dig first of ^day;");
        Check.fails(1, "dig height ^1;");
        Check.fails(1, "dig min(1^);");
        Check.fails(1, "dig max(1, 2^, 3);");
        Check.fails(1, "dig ^[1];");
        Check.fails(1, "dig 1 ^< 2;");
        Check.fails(1, "dig 1 when^;");
        Check.fails(1, "dig 1 when day^;");
        Check.fails(1, "dig 1 when [day < 1^;");
        Check.fails(1, "dig 1 when day < 1^];");
        Check.fails(1, "dig 1 when (day ^< 1);");
        Check.fails(1, "dig 1 when [day^];");
        Check.fails(1, "dig 1 when day < 1 ^< 2;");
        Check.fails(1, "dig 1 when sure 1 ^= 1;");
        Check.fails(1, "dig 1 when seen ^1;");
        Check.fails(1, "dig 1 when day < 1 and^;");
        Check.fails(1, "dig 1 when day < 1 ^when day < 2;");
        Check.fails(1, "dig 1 when day < ^not 1;");
    }

    private static void depth() {
        String open = "((((((((";
        String close = "))))))))";
        Check.holds("dig " + open + "1" + close + " + " + open + "2" + close + ";");
        Check.fails(1, "dig " + open + "^(1" + close + ");");
        Check.holds("dig --------1 - --------1;");
        Check.fails(1, "dig --------^-1;");
        Check.fails(1, "dig " + open + "^-1" + close + ";");
        Check.holds("dig " + open + "1 - 1" + close + ";");
        Check.holds("dig 1 when not not not not not not not not day < 1 and not not not not not not not not day < 1;");
        Check.fails(1, "dig 1 when not not not not not not not not ^not day < 1;");
        Check.holds("dig 1 when [[[[[[[[day < 1]]]]]]]] or [[[[[[[[day < 1]]]]]]]];");
        Check.fails(1, "dig 1 when [[[[[[[[^[day < 1]]]]]]]]];");
        Check.holds("dig 1 when [not [not (((-day))) < 1]];");
        Check.fails(1, "dig 1 when [not [not (((-^-day))) < 1]];");
        Check.fails(1, "dig 1 when [[[[[[[[^(1) < 1]]]]]]]];");
        Check.fails(1, "dig 1 when [[[[[[[[sure ^-1]]]]]]]];");
        Check.fails(1, "dig ((((((((height^(1)))))))));");
        Check.fails(1, "dig --------min^(1, 2);");
        Check.holds("dig -------max(1, 2);");
        Check.fails(1, "dig -------max(1, ^-2);");
        Check.fails(1, "dig -------min(^(1), 2);");
        Check.holds("dig ------min(-1, (2)) + -------(3);");
        // One behind which nothing is deeper: the error stays that of the grammar.
        Check.fails(1, "dig " + open + "^)" + close + ";");
    }

    private static void tokenCount() {
        StringBuilder sum = new StringBuilder("dig -1");
        for (int i = 0; i < 198; i++) {
            sum.append("+1");
        }
        Check.holds(sum + ";");
        Check.holds(sum + "; \n ");
        Check.fails(1, sum + ";^dig 1;");
        Check.fails(1, sum + ";^#");
        Check.fails(1, sum + "+^1;");
        Check.fails(1, sum + "^");
        // What is wanted behind the 400th token: the end of the tape is looked at there.
        Check.fails(1, Texts.orderOf(394) + "coin in 0, 0 year^");
        Check.fails(1, Texts.orderOf(394) + "coin in 0, 0 year ^1;");
        Check.fails(1, Texts.orderOf(399) + "empire^");
        Check.fails(1, Texts.orderOf(399) + "empire ^a from 1 to 2;");
        Check.fails(1, Texts.orderOf(398) + "dig -^");
        Check.fails(1, Texts.orderOf(397) + "dig 1;^dig 1;");
        Check.holds(Texts.orderOf(397) + "dig 1;");
    }

    private static void taken() {
        Check.fails(2, "empire a from 1 to 2; empire b from 1 to 2; empire ^a from 3 to 4;");
        Check.fails(2, "coin in 1, 2 year 3; coin in 2, 1 year 3; coin in 1, ^2 year 4;");
        Check.fails(2, "empire a from 1 to 2; coin in 1, 2 year 3; crumbs in 1, ^2 of a;");
        Check.fails(2, "empire a from 1 to 2; crumbs in 1, 2 of a; coin in 1, ^2 year 4;");
        Check.fails(2, "empire a from 1 to 2; crumbs in 1, 2 of a; crumbs in 1, ^2 of a;");
        Check.fails(2, "spring in 3, 5; spring in 3, ^5;");
        Check.holds("spring in 3, 5; coin in 3, 5 year 1; spring in 3, 4; coin in 2, 5 year 1;");
        Check.fails(2, "coin in 1, 2 year 3; coin in 1, ^2 year 1000;");
    }

    private static void unknown() {
        Check.fails(3, "crumbs in 0, 0 of ^a; empire a from 1 to 2;");
        Check.fails(3, "empire ab from 1 to 2; crumbs in 0, 0 of ^a;");
        Check.fails(3, "empire a from 1 to 2; crumbs in 0, 0 of ^ab;");
        Check.fails(3, "dig first of ^a;");
        Check.fails(3, "dig last of ^a;");
        Check.fails(3, "dig 1 when seen ^a;");
        Check.fails(3, "empire a from 1 to 2; dig 1 when day < first of a and seen ^b;");
    }

    private static void tooMany() {
        String empires = Texts.empires(6);
        Check.holds(empires);
        Check.fails(4, empires + "empire ^e6 from 1 to 2;");
        Check.fails(2, empires + "empire ^e5 from 1 to 2;");
        Check.fails(4, empires + "empire ^e6 from 2 to 1;");
        StringBuilder finds = new StringBuilder("empire a from 1 to 2;");
        for (int i = 0; i < 24; i++) {
            finds.append(i % 3 == 0 ? "crumbs" : "coin").append(" in ").append(i % 4).append(',').append(i / 4);
            finds.append(i % 3 == 0 ? " of a;" : " year 5;");
        }
        Check.holds(finds.toString());
        Check.fails(4, finds + "^coin in 0, 0 year 1;");
        Check.fails(4, finds + "^crumbs in 9, 0 of b;");
        Check.holds(finds + "spring in 0, 0;");
        StringBuilder orders = new StringBuilder();
        for (int i = 0; i < 16; i++) {
            orders.append(i % 3 == 0 ? "dig 1;" : i % 3 == 1 ? "prop 1;" : "free 1;");
        }
        Check.holds(orders.toString());
        Check.fails(4, orders + "^dig 1;");
        Check.fails(4, orders + "^prop 1;");
        Check.fails(4, orders + "^free first of a;");
        Check.holds(orders + "spring in 0, 0;");
    }

    private static void outOfRange() {
        Check.fails(5, "seats ^1 layers 4;");
        Check.fails(5, "seats ^9 layers 1;");
        Check.fails(5, "seats 2 layers ^1;");
        Check.fails(5, "seats 8 layers ^11;");
        Check.fails(5, "empire a from ^1000 to 1001;");
        Check.fails(5, "empire a from 1 to ^1000;");
        Check.fails(5, "empire a from 5 to ^4;");
        Check.holds("empire a from 5 to 5;");
        Check.fails(5, "coin in 0, 0 year ^1000;");
        Check.fails(5, "coin in ^4, 6 year 1000;");
        Check.fails(5, "coin in 3, ^6 year 1000;");
        Check.fails(5, "spring in ^4, 0;");
        Check.fails(5, "spring in 3, ^6;");
        Check.fails(5, "seats 2 layers 3; coin in ^2, 0 year 1;");
        Check.fails(5, "seats 2 layers 3; coin in 1, ^3 year 1;");
        Check.holds("seats 8 layers 10; coin in 7, 9 year 1;");
        Check.fails(5, "crumbs in 3, ^6 of a;");
        Check.holds("dig 999999;");
    }

    private static void firstError() {
        Check.fails(1, "seats 9 layers 1; dig^;");
        Check.fails(1, "dig 1 when seen a and day^;");
        Check.fails(5, "seats ^9 layers 6; dig first of a;");
        Check.fails(3, "dig first of ^a; spring in 9, 9;");
        Check.fails(5, "spring in ^9, 0; spring in 0, 0; spring in 0, 0;");
        Check.fails(2, "spring in 0, 0; spring in 0, ^0; spring in 9, 0;");
    }

    private static void allStays() {
        SofaDig dig = Check.taught("seats 3 layers 9; empire a from 4 to 5; coin in 0, 8 year 7; prop 1; dig 0;");
        dig.passDays(2);
        long digest = dig.digest();
        int[] errors = {1, 2, 3, 4, 5};
        StringBuilder orders = new StringBuilder();
        for (int i = 0; i < 17; i++) {
            orders.append("dig 2;");
        }
        String[] texts = {"seats 2 layers 2; dig", "spring in 0,0; spring in 0,0;", "dig first of b;", orders.toString(), "seats 7 layers 77;"};
        for (int i = 0; i < errors.length; i++) {
            Check.same("teach() of " + texts[i], Check.teachText(dig, texts[i]), errors[i]);
            Check.same("digest() behind the error " + errors[i], dig.digest(), digest);
            Check.same("seats() behind it", dig.seats(), 3);
            Check.same("isPropped(1) behind it", dig.isPropped(1), true);
            Check.same("foundAfter(1) behind it", dig.foundAfter(1), 1);
        }
        Check.same("teach() of an empty tape", dig.teach(), 0);
        Check.same("errorAt() behind it", dig.errorAt(), -1);
        Check.same("seats() behind it", dig.seats(), 4);
    }

    private static void allBeginsAnew() {
        String text = "seats 2 layers 10; spring in 0, 2; coin in 0, 9 year 3; dig 0; prop 1 when day = 0; free 1 when day = 5;";
        SofaDig fresh = Check.taught(text);
        long digest = fresh.digest();
        SofaDig dig = Check.taught(text);
        dig.passDays(4);
        dig.dig(1);
        Check.same("teach() anew", Check.teachText(dig, text), 0);
        Check.same("digest() anew", dig.digest(), digest);
        Check.same("isPropped(1) anew", dig.isPropped(1), false);
        Check.same("props() anew", dig.props(), 0);
        Check.same("days() anew", dig.days(), 0);
        Check.same("heightOf(0) anew", dig.heightOf(0), 10);
        dig.passDays(7);
        fresh.passDays(7);
        Check.same("digest() of both", dig.digest(), fresh.digest());
        Check.same("isTopLoose(0) of both", dig.isTopLoose(0), fresh.isTopLoose(0));
        Check.same("slides() of both", fresh.slides(), dig.slides());
        Check.same("slides", fresh.slides() > 0, true);
        Check.same("teach() of another one", Check.teachText(dig, "seats 3 layers 4;"), 0);
        Check.same("finds() of another one", dig.finds(), 0);
        Check.same("hasTopSpring(0) of another one", dig.hasTopSpring(0), false);
        Check.same("passDays(3) without orders", dig.passDays(3), 0);
        Check.same("cushionsDug() without orders", dig.cushionsDug(), 0);
    }
}
