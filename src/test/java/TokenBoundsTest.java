/** The edges of tokens, of the number of them, and of the depth: "1. The language" down to "Error 1". */
public final class TokenBoundsTest {
    private static final String OPEN = "((((((((";
    private static final String CLOSE = "))))))))";

    public static void main(String[] args) {
        everyByteInAWord();
        everyByteInANumber();
        everyByteAtTheBeginning();
        blanks();
        joinedTokens();
        longestWord();
        wordsThatDiffer();
        longestNumber();
        longestToken();
        symbols();
        emptyTapes();
        optionalParts();
        missingParts();
        mostTokens();
        tokenBehindTheMost();
        deepestParentheses();
        deepestBrackets();
        deepestMinus();
        deepestNot();
        deepestCalls();
        depthEndsWhereItsPartEnds();
        mixedDepth();
        Check.finish();
    }

    private static boolean isBlank(int sign) {
        return sign == 32 || sign == 10;
    }

    private static boolean isDigit(int sign) {
        return sign >= '0' && sign <= '9';
    }

    private static boolean isLetter(int sign) {
        return sign >= 'a' && sign <= 'z';
    }

    /** "a letter a to z, followed by letters a to z and digits" */
    private static void everyByteInAWord() {
        for (int sign = 0; sign < 256; sign++) {
            String text = "empire b" + (char) sign + " from 1 to 2;";
            if (isBlank(sign) || isDigit(sign) || isLetter(sign)) {
                Check.holds(text);
            } else {
                Check.failsAt(1, 8, text);
            }
        }
    }

    private static void everyByteInANumber() {
        for (int sign = 0; sign < 256; sign++) {
            String text = "dig 1" + (char) sign + ";";
            if (isBlank(sign) || isDigit(sign)) {
                Check.holds(text);
            } else if ("+-*/;".indexOf(sign) >= 0) {
                Check.failsAt(1, 6, text);
            } else {
                Check.failsAt(1, 5, text);
            }
        }
    }

    private static void everyByteAtTheBeginning() {
        for (int sign = 0; sign < 256; sign++) {
            if (isBlank(sign)) {
                Check.holds((char) sign + "dig 1;" + (char) sign);
            } else {
                Check.failsAt(1, 0, (char) sign + " dig 1;");
                Check.failsAt(1, 6, "dig 1;" + (char) sign);
            }
        }
    }

    /** "can stand between tokens, at the beginning and at the end" */
    private static void blanks() {
        Check.holds(" dig 1;");
        Check.holds("\ndig 1;");
        Check.holds("dig 1; ");
        Check.holds("dig 1;\n");
        Check.holds("dig\n1\n;\n\n  \n");
        Check.holds("dig   \n \n  (  1 + \n 2 ) ; dig\n2;");
        Check.holds("dig(1+2);dig-1;prop(day);");
        Check.fails(1, "dig 1 \n^");
        Check.fails(1, " \n dig ^;");
        Check.fails(1, "dig 1 ^2;");
    }

    /** "have to stand between two tokens that would otherwise be read as one" */
    private static void joinedTokens() {
        Check.fails(1, "^dig1;");
        Check.fails(1, "^digday;");
        Check.fails(1, "dig ^daywhen day=1;");
        Check.fails(1, "dig 1 when day=1 ^orday=2;");
        Check.fails(1, "dig 1 when ^notday=2;");
        Check.fails(1, "empire a ^from1 to 2;");
        Check.fails(1, "dig min(1,2)when day=1and ^notsure 1;");
        Check.holds("dig min(1,2)when day=1and sure 1or day<2;");
        Check.holds("seats 2layers 3;empire a from 1to 2;crumbs in 0,0of a;coin in 1,1year 3;dig 1when day=1;");
        Check.holds("dig 1 when day<-1 or day>-1 or day=-1;");
        Check.fails(1, "dig 1 when day> ^=1;");
        Check.fails(1, "dig 1 when day<\n^=1;");
    }

    /** "at most 10 bytes" */
    private static void longestWord() {
        Check.holds("empire a from 1 to 2;dig first of a;");
        Check.holds("empire abcdefghij from 1 to 2;dig first of abcdefghij;");
        Check.holds("empire a123456789 from 1 to 2;dig first of a123456789;");
        Check.fails(1, "empire ^abcdefghijk from 1 to 2;");
        Check.fails(1, "empire ^a1234567890 from 1 to 2;");
        Check.fails(1, "empire ^" + "z".repeat(1900) + " from 1 to 2;");
        Check.fails(3, "empire abcdefghij from 1 to 2;dig first of ^abcdefghi;");
        Check.fails(3, "empire abcdefghij from 1 to 2;dig first of ^bbcdefghij;");
        Check.fails(3, "empire abcdefghij from 1 to 2;dig first of ^abcdefghii;");
        Check.fails(1, "empire abcdefghij from 1 to 2;dig first of ^abcdefghijk;");
        Check.fails(1, "^seatsseatss 2 layers 3;");
        Check.fails(2, "empire zzzzzzzzzz from 1 to 2;empire ^zzzzzzzzzz from 1 to 2;");
        Check.holds("empire zzzzzzzzzz from 1 to 2;empire zzzzzzzzz from 1 to 2;empire zzzzzzzzz9 from 1 to 2;empire z0 from 1 to 2;empire z from 1 to 2;empire z00 from 1 to 2;");
        Check.fails(1, "dig 1 when seen ^a2345678901;");
        Check.fails(1, "dig 1;^abcdefghijk");
    }

    /** Names are the same only if all their bytes are. */
    private static void wordsThatDiffer() {
        String signs = "abcdefghijklmnopqrstuvwxyz0123456789";
        String longest = "m".repeat(10);
        for (int place = 0; place < 10; place++) {
            for (int i = place == 0 ? 10 : 0; i < 36; i++) {
                String other = longest.substring(0, place) + signs.charAt((i + 26) % 36) + longest.substring(place + 1);
                looksUp(longest, other);
            }
        }
        for (String name : new String[] {"a0", "a9", "az", "m0", "qq", "z0", "zz"}) {
            for (int first = 0; first < 26; first++) {
                for (int second = 0; second < 36; second++) {
                    looksUp(name, "" + signs.charAt(first) + signs.charAt(second));
                }
            }
        }
        looksUp("abc", "acb");
        looksUp("abc", "cba");
    }

    private static void looksUp(String told, String wanted) {
        SofaDig dig = new SofaDig();
        // Two-letter keywords are no names.
        if (!"to in of or".contains(wanted)) {
            int error = Check.teachText(dig, "empire " + told + " from 1 to 2;dig first of " + wanted + ";");
            Check.same("teach() of " + told + " and " + wanted, error, told.equals(wanted) ? 0 : 3);
        }
    }

    /** "1 to 6 digits" */
    private static void longestNumber() {
        Check.holds("dig 0;");
        Check.holds("dig 999999;");
        Check.holds("dig 000000;");
        Check.fails(1, "dig ^1000000;");
        Check.fails(1, "dig ^0000000;");
        Check.fails(1, "dig ^" + "9".repeat(1900) + ";");
        Check.fails(1, "seats ^0000004 layers 6;");
        Check.holds("seats 000004 layers 000006;");
        Check.fails(1, "coin in 0,0 year ^0000001;");
        Check.fails(5, "coin in 0,0 year ^999999;");
    }

    /** "The longest possible token is always read." */
    private static void longestToken() {
        Check.fails(1, "dig 1 when day>=^=1;");
        Check.fails(1, "dig 1 when day<=^>1;");
        Check.fails(1, "dig 1 when day=^>1;");
        Check.fails(1, "dig 1 when day<^<1;");
        Check.holds("dig 1 when day<=1 or day>=2;");
        Check.holds("empire or1 from 1 to 2;empire nota from 1 to 2;empire dig2 from 1 to 2;dig first of dig2;");
        Check.holds("empire seat from 1 to 2;empire layer from 1 to 2;empire heights from 1 to 2;empire yea from 1 to 2;");
        Check.fails(1, "dig 12345^a;");
    }

    private static void symbols() {
        Check.holds("dig(1+2)-3*4/5;dig min(6,7)when[day<1 or day>2 or day=3 or day<=4 or day>=5];");
        for (String sign : "[ ) ] ; , + * / < > = <= >= ! \" # $ % & ' . : ? @ A Z \\ _ ` { | } ~".split(" ")) {
            Check.fails(1, "dig ^" + sign + " 1;");
        }
        Check.failsAt(1, 4, "dig ^ 1;");
    }

    /** "{ x } any number of times, also none": a sofa of no lines at all. */
    private static void emptyTapes() {
        Check.holds("");
        Check.holds(" ");
        Check.holds("\n");
        Check.holds("seats 4 layers 6;");
        Check.fails(1, "seats 4 layers 6^");
        Check.fails(1, "seats^");
        Check.fails(1, "^;");
    }

    /** "[ x ] means x or nothing": the seats line and when, once each. */
    private static void optionalParts() {
        Check.fails(1, "seats 2 layers 3;^seats 2 layers 3;");
        Check.fails(1, "dig 1;^seats 2 layers 3;");
        Check.fails(1, "dig 1 when day=1 ^when day=1;");
        Check.fails(1, "dig 1 when^;");
        Check.fails(1, "dig ^when day=1;");
        Check.holds("dig 1+1+1*1*1-1/1/1 when day=1 or day=2 and day=3 and not not day=4 or day=5;");
    }

    /** What is neither optional nor repeated stands once: without it, the token behind it is the first wrong one. */
    private static void missingParts() {
        Check.fails(1, "seats ^layers 4;");
        Check.fails(1, "seats 4 layers^;");
        Check.fails(1, "seats 4^;");
        Check.fails(1, "empire ^from 1 to 2;");
        Check.fails(1, "empire a ^to 2;");
        Check.fails(1, "empire a from ^to 2;");
        Check.fails(1, "empire a from 1^;");
        Check.fails(1, "empire a from 1 to^;");
        Check.fails(1, "empire a ^1 to 2;");
        Check.fails(1, "coin ^year 1;");
        Check.fails(1, "coin ^0,0 year 1;");
        Check.fails(1, "coin in ^,0 year 1;");
        Check.fails(1, "coin in 0 ^year 1;");
        Check.fails(1, "coin in 0, ^year 1;");
        Check.fails(1, "coin in 0,0^;");
        Check.fails(1, "coin in 0,0 year^;");
        Check.fails(1, "coin in 0,0 ^1;");
        Check.fails(1, "spring^;");
        Check.fails(1, "spring in^;");
        Check.fails(1, "spring in 0^;");
        Check.fails(1, "spring in 0,^;");
        String a = "empire a from 1 to 2;";
        Check.fails(1, a + "crumbs ^of a;");
        Check.fails(1, a + "crumbs in 0,0^;");
        Check.fails(1, a + "crumbs in 0,0 ^a;");
        Check.fails(1, a + "crumbs in 0,0 of^;");
        Check.fails(1, a + "dig first of^;");
        Check.fails(1, a + "dig last ^a;");
        Check.fails(1, a + "dig 1 when seen^;");
        Check.fails(1, a + "dig 1 when seen ^and seen a;");
        Check.fails(1, "dig 1 when sure^;");
        Check.fails(1, "dig 1 when day ^day;");
        Check.fails(1, "dig 1 when 1 ^1;");
        Check.fails(1, "dig 1 when day ^or day=1;");
        Check.fails(1, "dig 1 when day=^;");
        Check.fails(1, "dig 1 when ^=1;");
        Check.fails(1, "dig 1 ^day=1;");
        Check.fails(1, "dig 1 when [^];");
        Check.fails(1, "dig 1 when not^;");
        Check.fails(1, "dig (1^;");
        Check.fails(1, "dig height^;");
        Check.fails(1, "dig height(^);");
        Check.fails(1, "dig min(1^);");
        Check.fails(1, "dig min(1,^);");
        Check.fails(1, "dig max(^,1);");
        Check.fails(1, "dig 1 ^prop 1;");
        Check.fails(1, "dig 1 *^;");
        Check.fails(1, "dig -^;");
    }

    private static void mostTokens() {
        Check.holds(Texts.orderOf(400));
        Check.holds(Texts.orderOf(400) + " \n ");
        Check.holds(Texts.orderOf(399));
        Check.holds(Texts.orderOf(389) + "coin in 0,0 year 1;dig 1;");
        Check.holds(Texts.orderOf(397) + "dig 1;");
        SofaDig dig = Check.taught("dig 1" + "+1".repeat(198) + ";");
        dig.passDays(1);
        Check.same("heightOf(3) behind dig 199", dig.heightOf(3), 5);
        Check.holds("dig 0 when day=1" + " or day=1".repeat(98) + ";");
        Check.holds("dig 0 when not day=1" + " and day=1".repeat(98) + ";");
    }

    /** "the token that would be the 401st (the end of the tape not counted)" */
    private static void tokenBehindTheMost() {
        Check.fails(1, Texts.orderOf(400) + "^dig 1;");
        Check.fails(1, Texts.orderOf(400) + " \n ^;");
        Check.fails(1, Texts.orderOf(400) + "^#");
        Check.fails(1, Texts.orderOf(400) + "^abcdefghijkl");
        Check.fails(1, Texts.orderOf(398) + "dig 1^;");
        Check.fails(1, Texts.orderOf(399) + "dig ^1;");
        Check.fails(1, Texts.orderOf(398) + "dig 1^");
        Check.fails(1, Texts.orderOf(396) + "dig 1 ^1;");
        Check.fails(1, Texts.orderOf(401).replaceAll(";$", "^;"));
        Check.fails(1, Texts.orderOf(402).replaceAll("1;$", "^1;"));
        // Whatever is due there: a number, a name, a keyword, a value, a sign, an end.
        Check.fails(1, Texts.orderOf(394) + "coin in 0,0 year ^1;");
        Check.fails(1, Texts.orderOf(398) + "coin in ^0,0 year 1;");
        Check.fails(1, Texts.orderOf(399) + "empire ^a from 1 to 2;");
        Check.fails(1, Texts.orderOf(398) + "empire a ^from 1 to 2;");
        Check.fails(1, Texts.orderOf(398) + "dig 1 ^when day=1;");
        Check.fails(1, Texts.orderOf(398) + "dig -^1;");
        Check.fails(1, Texts.orderOf(398) + "dig -^-1;");
        Check.fails(1, Texts.orderOf(398) + "dig (^(1));");
        Check.fails(1, Texts.orderOf(397) + "dig (1^);");
        Check.fails(1, Texts.orderOf(397) + "dig 1+^1;");
        Check.fails(1, Texts.orderOf(397) + "dig 1 when ^not day=1;");
        Check.fails(1, Texts.orderOf(396) + "dig 1 when day^=1;");
        // An error 1 ahead of it is the first one, one of another kind is not looked at.
        Check.fails(1, "dig ^)" + "+1".repeat(300) + ";");
        Check.fails(1, "coin in 9,9 year 1;" + Texts.orderOf(392) + "^dig 1;");
    }

    /** "1 greater between a ( and its )", "at most 8" */
    private static void deepestParentheses() {
        for (int depth = 1; depth <= 8; depth++) {
            Check.holds("dig " + "(".repeat(depth) + "1" + ")".repeat(depth) + ";");
        }
        Check.fails(1, "dig " + OPEN + "^(1" + CLOSE + ");");
        Check.fails(1, "dig " + OPEN + "1+^(1)" + CLOSE + ";");
        Check.fails(1, "dig 1 when " + OPEN + "^(1" + CLOSE + ")=1;");
        Check.fails(1, "dig 1 when 1=" + OPEN + "^(1" + CLOSE + ");");
    }

    private static void deepestBrackets() {
        for (int depth = 1; depth <= 8; depth++) {
            Check.holds("dig 1 when " + "[".repeat(depth) + "day=1" + "]".repeat(depth) + ";");
        }
        Check.fails(1, "dig 1 when [[[[[[[[^[day=1]]]]]]]]];");
        Check.fails(1, "dig 1 when [[[[[[[[day=1 and ^[day=1]]]]]]]]];");
        Check.fails(1, "dig 1 when [[[[[[[[day=^(1)]]]]]]]];");
        Check.fails(1, "dig 1 when [[[[[[[[^not day=1]]]]]]]];");
        Check.fails(1, "dig 1 when [[[[[[[[^-1=day]]]]]]]];");
        Check.holds("dig 1 when [[[[[[[-1=day or not day=1 or [day=1]]]]]]]];");
    }

    /** "behind a - in front (of a value) for what it turns" */
    private static void deepestMinus() {
        for (int depth = 1; depth <= 8; depth++) {
            Check.holds("dig " + "-".repeat(depth) + "1;");
        }
        Check.fails(1, "dig --------^-1;");
        Check.fails(1, "dig 1 - --------^-1;");
        Check.fails(1, "dig --------^(1);");
        Check.fails(1, "dig --------height^(1);");
        Check.holds("dig --------day;");
        // Between two values it is no - in front.
        Check.holds("dig " + OPEN + "1-1-1" + CLOSE + ";");
        Check.holds("dig --------1-1;");
    }

    /** "behind a not for what it turns" */
    private static void deepestNot() {
        for (int depth = 1; depth <= 8; depth++) {
            Check.holds("dig 1 when " + "not ".repeat(depth) + "day=1;");
        }
        Check.fails(1, "dig 1 when " + "not ".repeat(8) + "^not day=1;");
        Check.fails(1, "dig 1 when " + "not ".repeat(8) + "^[day=1];");
        Check.fails(1, "dig 1 when " + "not ".repeat(8) + "sure ^-1;");
        Check.fails(1, "dig 1 when " + "not ".repeat(8) + "day=^-1;");
        Check.fails(1, "dig 1 when " + "not ".repeat(8) + "^(day)=1;");
        Check.holds("empire a from 1 to 2;dig 1 when " + "not ".repeat(8) + "seen a;");
        Check.holds("dig 1 when " + "not ".repeat(8) + "sure 1 and [[[[[[[[day=1]]]]]]]];");
    }

    private static void deepestCalls() {
        for (String call : new String[] {"height(1)", "min(1,2)", "max(1,2)"}) {
            Check.holds("dig (((((((" + call + ")))))));");
            Check.fails(1, "dig " + OPEN + call.replace("(", "^(") + CLOSE + ";");
            Check.holds("dig -------" + call + ";");
            Check.fails(1, "dig --------" + call.replace("(", "^(") + ";");
        }
        Check.fails(1, "dig (((((((min(1,^(2)))))))));");
        Check.fails(1, "dig (((((((max(^(1),2))))))));");
        Check.fails(1, "dig (((((((height(^-1))))))));");
        Check.holds("dig " + "height(".repeat(8) + "1" + CLOSE + ";");
        Check.fails(1, "dig " + "height(".repeat(8) + "height^(1" + CLOSE + ");");
    }

    private static void depthEndsWhereItsPartEnds() {
        Check.holds("dig " + OPEN + "1" + CLOSE + ("+" + OPEN + "1" + CLOSE).repeat(4) + ";");
        Check.holds("dig --------1+--------1*--------1;");
        Check.holds("dig min(-------1,-------1);");
        Check.holds("dig -------(1)+-------(1);");
        Check.holds("dig 1 when " + "not ".repeat(8) + "day=1 or " + "not ".repeat(8) + "day=1;");
        Check.holds("dig 1 when [[[[[[[[day=1]]]]]]]] and [[[[[[[[day=1]]]]]]]];");
        Check.holds("dig " + OPEN + "1" + CLOSE + " when " + OPEN + "1" + CLOSE + "=" + OPEN + "1" + CLOSE + ";dig " + OPEN + "1" + CLOSE + ";");
        Check.holds("dig 1 when not -------1=-------1;");
        Check.fails(1, "dig 1 when not -------1=-------^-1;");
    }

    private static void mixedDepth() {
        Check.holds("dig 1 when not [not [not [-(1)=1]]];");
        Check.holds("dig 1 when not [not [not [-(day)=height(1)]]];");
        Check.fails(1, "dig 1 when not [not [not [-(^-1)=1]]];");
        Check.fails(1, "dig 1 when not [not [not [-(min^(1,2))=1]]];");
        Check.holds("dig 1 when not [not [not [1=1 and min((1),2)=1]]];");
        Check.fails(1, "dig 1 when not [not [not [1=1 and min((^(1)),2)=1]]];");
    }
}
