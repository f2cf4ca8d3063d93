import java.util.List;

/** Sentences on texts that are told: 'What it is', the first part of 'Terms' but for the faults, promises 1, 2, 3 and 5. */
final class TextSentences {
    /** x beats s by a (40 against a lean of 30), y holds nothing. */
    static final String ONE = "claim a 40 1;claim b 60 2;contra a b;straw s b 50;member x;member y;holds x a;";
    static final String[] LANGUAGE = ("claim contra straw member holds debate stuff damp seed law lean wear turn or and not "
        + "weight temper full force wins held night").split(" ");

    private static final String SOME = "claim a 1 1;claim b 1 1;straw s a 1;member x;";
    private static final String[] LINES = {"claim c 0 0", "contra a b", "straw t b 1", "member y", "holds x a",
        "debate x s 0", "stuff s 0", "damp 0", "seed 0", "law lean 1"};

    private TextSentences() {
    }

    static void all() {
        calls();
        lines();
        lawLines();
        words();
        names();
        digits();
        blanks();
        expressions();
        parts();
        numbersOfLaws();
        namesOfLaws();
        joinedSigns();
        claims();
        contras();
        straws();
        members();
        holding();
        debates();
        stuffings();
        damp();
        seed();
        numbered();
        newObject();
        feeding();
        feedingTooMuch();
        firstBytes();
        nothingOfEarlierTexts();
        fresh();
        howManyLines();
        faultyStays();
        notSoMany();
        named();
        notNamed();
    }

    private static long value(String law) {
        return Check.told(ONE + "law lean " + law + ";").law(0, 0, 0);
    }

    private static void calls() {
        Doc.says("What it is", "An object is used for at most 512 calls after it has been made; what later calls answer is free.");
        StrawMen x = new StrawMen();
        Check.tell(x, ONE);
        int made = (ONE.length() + 19) / 20 + 1;
        for (int call = made + 1; call < 512; call++) {
            Check.due("call " + call + ", debate(1, 0)", x.debate(1, 0), 0);
        }
        Check.due("the 512th call, member(1, 2)", x.member(1, 2), 511 - made);
    }

    private static void lines() {
        Doc.says("Terms 1", "A TEXT: { LINE ';' }.");
        Check.fine("", 0);
        Check.fine("member x;", 1);
        Check.fine("member x;member y;", 2);
        Check.faulty(1, "member x#");
        Check.faulty(1, "member x;member y#");
        Check.faulty(1, "#;");
        Check.faulty(1, "member x;#;");
        Doc.says("Terms 1", "LINE: claim W N N | contra W W | straw W W N | member W | holds W W | debate W W N | stuff W N"
            + " | damp N | seed N | law LAW E.");
        for (String line : LINES) {
            Check.fine(SOME + line + ";", 5);
            Check.faulty(1, SOME + line + "#");
            Check.faulty(1, SOME + line + " #x;");
            String[] tokens = line.split(" ");
            String ahead = SOME;
            for (int i = 0; i < tokens.length; i++) {
                boolean number = tokens[i].charAt(0) <= '9';
                Check.faulty(1, ahead + (number ? "#x" : "#1"));
                Check.faulty(1, ahead + "#;");
                ahead += tokens[i] + " ";
                if (i + 1 < tokens.length) {
                    Check.faulty(1, ahead + "#");
                }
            }
        }
    }

    private static void lawLines() {
        Doc.says("Terms 1", "LAW: lean | wear | turn.");
        StrawMen x = Check.told(ONE + "law turn 3;law wear 2;law lean 1;");
        for (int what = 0; what < 3; what++) {
            Check.due("law(" + what + ", 0, 0)", x.law(what, 0, 0), what + 1);
        }
        for (String word : LANGUAGE) {
            if (!word.equals("lean") && !word.equals("wear") && !word.equals("turn")) {
                Check.faulty(1, "law #" + word + " 1;");
            }
        }
        Check.faulty(1, "law #x 1;");
        Check.faulty(1, "law #leans 1;");
        Check.faulty(1, "law #1;");
    }

    private static void words() {
        Doc.says("Terms 1", "Words: small letters in a row;");
        Check.fine("claim a1 1;claim z0 0;", 2);
        Check.faulty(1, "#Claim a 1 1;");
        Check.faulty(1, "claim #A 1 1;");
        Check.faulty(1, "claim a#B 1 1;");
        Check.faulty(1, "#claima 1 1;");
        Check.faulty(1, "#cl aim a 1 1;");
        Check.faulty(1, "claim a #b 1 1;");
        Check.faulty(1, "claim #` 1 1;");
        Check.faulty(1, "claim #{ 1 1;");
        Check.faulty(1, "claim #\u00e1 1 1;");
    }

    private static void names() {
        Doc.says("Terms 1", "W: one of 1 .. 6 letters, none of those of the language;");
        Check.fine("claim a 1 1;claim bcdefg 1 1;member z;member zzzzzz;", 4);
        Check.faulty(1, "claim #abcdefg 1 1;");
        Check.faulty(1, "member #" + "z".repeat(40) + ";");
        for (String word : LANGUAGE) {
            Check.faulty(1, "claim #" + word + " 1 1;");
            Check.faulty(1, "member #" + word + ";");
            Check.faulty(1, SOME + "straw #" + word + " a 1;");
            Check.faulty(1, SOME + "straw t #" + word + " 1;");
            Check.faulty(1, SOME + "contra a #" + word + ";");
            Check.faulty(1, SOME + "holds #" + word + " a;");
            Check.faulty(1, SOME + "debate x #" + word + " 0;");
            Check.faulty(1, SOME + "stuff #" + word + " 0;");
            String shorter = word.substring(0, word.length() - 1);
            Check.fine("claim " + shorter + " 1 1;", 1);
            if (word.length() < 6) {
                Check.fine("claim " + word + "s 1 1;", 1);
            }
        }
    }

    private static void digits() {
        Doc.says("Terms 1", "N: digits.");
        StrawMen x = Check.told("claim a 0000000000000000000000099 00000000000000000000000000000000000009;");
        Check.due("many noughts ahead, WEIGHT", x.claim(0, 0), 99);
        Check.due("many noughts ahead, TEMPER", x.claim(0, 1), 9);
        Check.due("all digits", Check.told(ONE + "law lean 1234;law wear 5678;law turn 9009;").law(1, 0, 0), 5678);
        Check.faulty(1, "claim a 1#x 1;");
        Check.faulty(1, "claim a #x1 1;");
        Check.faulty(1, "claim a #-1 1;");
        Check.faulty(1, "claim a #+1 1;");
        Check.faulty(1, "claim a 1#.0 1;");
        Check.faulty(1, "claim a 1 0 #1;");
        Check.faulty(1, "claim a 1#/ 1;");
        Check.faulty(1, "claim a 1#: 1;");
        // The digits behind the last byte don't belong to the text.
        StrawMen cut = new StrawMen();
        Check.feed(cut, "damp 100;");
        Check.due("text(6) of 'damp 100;'", cut.text(6), Check.NONE);
        Check.due("the place where more must come", cut.fault(1), 6);
    }

    private static void blanks() {
        Doc.says("Terms 1", "Blanks 10, 32.");
        Check.fine(" \n member \n\n x \n ; \n", 1);
        Check.fine("member\nx;", 1);
        Check.fine("\n", 0);
        for (int sign = 0; sign < 256; sign++) {
            boolean letter = sign >= 'a' && sign <= 'z';
            if (sign != 10 && sign != 32) {
                StrawMen x = new StrawMen();
                String text = "member" + (char) sign + "x;";
                Check.due("text with sign " + sign, Check.tell(x, text), Check.NONE);
                Check.due("fault(0) with sign " + sign, x.fault(0), 1);
                Check.due("fault(1) with sign " + sign, x.fault(1), letter ? 0 : 6);
            }
        }
    }

    private static void expressions() {
        Doc.says("Terms 1", "E: A { or A }. A: B { and B }. B: not B | C. C: S [ ( < | <= | = | <> | >= | > ) S ]."
            + " S: T { ( + | - ) T }. T: P { ( * | / ) P }.");
        String[] laws = {"1 or 1 and 0", "not 0 and 0", "not 3 = 1", "2 + 1 = 3", "3 = 2 + 1", "2 + 3 * 4", "2 * 3 + 4",
            "10 - 3 - 2", "9 - 3 + 2", "100 / 5 / 2", "100 / 5 * 2", "7 - 6 / 3", "not 1 + 1", "not not 7", "not not not 7",
            "0 or 0 or 3", "3 and 3 and 0", "1 and not 0", "0 or not 0", "not 0 or 1 / 1", "1 < 2 and 2 < 1", "5"};
        long[] due = {1, 0, 1, 1, 1, 14, 10, 5, 8, 10, 40, 5, 0, 1, 0, 1, 0, 1, 1, 1, 0, 5};
        for (int i = 0; i < laws.length; i++) {
            Check.due(laws[i], value(laws[i]), due[i]);
        }
        for (String sign : "< <= = <> >= >".split(" ")) {
            for (String again : "< <= = <> >= >".split(" ")) {
                Check.faulty(1, "law lean 1 " + sign + " 2 #" + again + " 3;");
            }
            Check.faulty(1, "law lean #" + sign + " 2;");
            Check.faulty(1, "law lean 1 " + sign + " #not 2;");
            Check.faulty(1, "law lean 1 " + sign + "#");
        }
        for (String sign : "+ - * /".split(" ")) {
            Check.faulty(1, "law lean #" + sign + " 2;");
            Check.faulty(1, "law lean 1 " + sign + " #not 2;");
            Check.faulty(1, "law lean 1 " + sign + " #" + sign + " 2;");
            Check.faulty(1, "law lean 1 " + sign + "#;");
        }
        for (String word : "or and".split(" ")) {
            Check.faulty(1, "law lean #" + word + " 1;");
            Check.faulty(1, "law lean 1 " + word + " #" + word + " 1;");
            Check.faulty(1, "law lean not #" + word + " 1;");
            Check.faulty(1, "law lean 1 " + word + "#;");
        }
        Check.faulty(1, "law lean 1 #not 1;");
        Check.faulty(1, "law lean not#;");
        Check.faulty(1, "law lean 1 or 1 #x 1;");
        Check.faulty(1, "law lean 1 and 1 #x 1;");
    }

    private static void parts() {
        Doc.says("Terms 1", "P: N | NAME | '(' E ')';");
        Check.due("(2 + 3) * 4", value("(2 + 3) * 4"), 20);
        Check.due("(1 or 0) and 0", value("(1 or 0) and 0"), 0);
        Check.due("(1 < 2) < 3", value("(1 < 2) < 3"), 1);
        Check.due("1 + (not 0)", value("1 + (not 0)"), 2);
        Check.due("((night))", value("((night))"), 0);
        Check.faulty(1, "law lean (#);");
        Check.faulty(1, "law lean (1#;");
        Check.faulty(1, "law lean (1 < 2 #< 3);");
        Check.faulty(1, "law lean (1#");
        Check.faulty(1, "law lean (1 #1);");
        Check.faulty(1, "law lean 1#);");
        Check.faulty(1, "law lean (1)#);");
        Check.faulty(1, "law lean (1)#(1);");
        Check.faulty(1, "law lean 1 #1;");
        Check.faulty(1, "law lean 1 #night;");
        Check.faulty(1, "law lean night #1;");
    }

    private static void numbersOfLaws() {
        Doc.says("Terms 1", "N of E 0 .. 9999.");
        Check.due("0", value("0"), 0);
        Check.due("9999", value("9999"), 9999);
        Check.due("09999", value("09999"), 9999);
        Check.faulty(2, "law lean #10000;");
        Check.faulty(2, "law lean 1 + #99999;");
        Check.faulty(2, "law lean (#" + "9".repeat(60) + ");");
        // Were they cut to 32 or 64 bits, they would be 1.
        Check.faulty(2, "law lean #4294967297;");
        Check.faulty(2, "law lean #18446744073709551617;");
    }

    private static void namesOfLaws() {
        Doc.says("Terms 1", "NAME: weight temper full force wins held night.");
        StrawMen x = Check.told(ONE + "law lean weight*1+temper*2+full*3+force*4+wins*5+held*6+night*7;");
        Check.due("all of them", x.law(0, 0, 0), 60 + 4 + 150 + 160 + 6);
        Check.due("how many knots they are", x.count(5), 7 + 7 + 7 + 6);
        List<String> fine = List.of("weight", "temper", "full", "force", "wins", "held", "night", "not");
        for (String word : LANGUAGE) {
            if (!fine.contains(word)) {
                Check.faulty(1, "law lean #" + word + ";");
                Check.faulty(1, "law lean 1+#" + word + ";");
            }
        }
        Check.faulty(1, "claim a 1 1;law lean #a;");
        Check.faulty(1, "law lean #damp;");
        Check.faulty(1, "law lean #nights;");
    }

    private static void joinedSigns() {
        Doc.says("Terms 1", "A = (or > behind <) right behind < or > belongs to it.");
        String[] laws = {"1<=1", "2<=1", "1>=1", "1>=2", "1<>1", "1<>2", "1 <=\n1", "1<>\n1", "1<=(1)", "1>=(2)",
            "1<>(1)", "(1)<>(2)", "(1)=1", "(1)>0", "(2)>=3", "(2)<=1", "(1)<0"};
        long[] due = {1, 0, 1, 0, 0, 1, 1, 0, 1, 0, 0, 1, 1, 1, 0, 0, 0};
        for (int i = 0; i < laws.length; i++) {
            Check.due(laws[i], value(laws[i]), due[i]);
            Check.due("knots of " + laws[i], Check.told("law lean " + laws[i] + ";").count(5), 3);
        }
        String[] apart = {"1< #=2", "1<\n#=2", "1> #=2", "1< #>2", "1=#<2", "1=#>2", "1>#<2", "1>#>2", "1<#<2", "1=#=2",
            "1<>#=2", "1<=#>2", "1<=#=2", "1>=#=2", "1<>#>2", "1+#=2", "1-#>2", "1*#=2", "1/#=2", "(#=2)", "(#>2)", "1;#=",
            "1;#>"};
        for (String law : apart) {
            Check.faulty(1, "law lean " + law + ";");
        }
        // The sign behind the last byte doesn't belong to the text, so it doesn't belong to the sign either.
        for (String law : "law lean 1<=2; law lean 1>=2; law lean 1<>2;".split("(?<=;) ")) {
            StrawMen x = new StrawMen();
            Check.feed(x, law);
            Check.due("text(11) of " + law, x.text(11), Check.NONE);
            Check.due("fault(1) of the first 11 of " + law, x.fault(1), 11);
        }
    }

    private static String manyClaims(int many) {
        StringBuilder text = new StringBuilder();
        for (int i = 0; i < many; i++) {
            text.append("claim ").append((char) ('a' + i)).append(" 1 1;");
        }
        return text.toString();
    }

    private static void claims() {
        Doc.says("Terms 1", "CLAIMS, at most 8: WEIGHT 0 .. 99, TEMPER 0 .. 9.");
        Check.fine(manyClaims(8), 8);
        Check.due("count(0)", Check.told(manyClaims(8)).count(0), 8);
        Check.due("the eighth's WEIGHT", Check.told(manyClaims(8)).claim(7, 0), 1);
        Check.faulty(2, manyClaims(8) + "#claim i 1 1;");
        StrawMen x = Check.told("claim a 0 0;claim b 99 9;");
        Check.due("the least WEIGHT", x.claim(0, 0), 0);
        Check.due("the least TEMPER", x.claim(0, 1), 0);
        Check.due("the most WEIGHT", x.claim(1, 0), 99);
        Check.due("the most TEMPER", x.claim(1, 1), 9);
        Check.faulty(2, "claim a #100 0;");
        Check.faulty(2, "claim a 0 #10;");
        Check.faulty(2, "claim a #4294967296 0;");
        Check.faulty(2, "claim a 0 #18446744073709551616;");
    }

    private static void contras() {
        Doc.says("Terms 1", "contra, at most 16: the first CLAIM is AGAINST the second one.");
        StringBuilder text = new StringBuilder(manyClaims(8));
        for (String two : "ab ac ad ae af ag ah ba bc bd be bf bg bh ca hg".split(" ")) {
            text.append("contra ").append(two.charAt(0)).append(' ').append(two.charAt(1)).append(';');
        }
        StrawMen x = Check.told(text.toString());
        Check.due("count(1)", x.count(1), 16);
        Check.due("the first one's", x.claim(0, 2), 254);
        Check.due("the last one, from", x.claim(7, 2), 64);
        Check.due("the last one, to", x.claim(6, 3), 1 + 2 + 128);
        Check.faulty(2, text + "#contra c b;");
        StrawMen one = Check.told("claim a 1 1;claim b 1 1;contra a b;");
        Check.due("a is AGAINST b", one.claim(0, 2), 2);
        Check.due("b is AGAINST none", one.claim(1, 2), 0);
        Check.due("a AGAINST b", one.claim(1, 3), 1);
        Check.due("none AGAINST a", one.claim(0, 3), 0);
    }

    private static void straws() {
        Doc.says("Terms 1", "STRAW, at most 5: a CLAIM, FULL 1 .. 99.");
        String five = "claim a 1 1;claim b 1 1;straw p a 1;straw q b 99;straw r a 2;straw s a 3;straw t b 4;";
        StrawMen x = Check.told(five);
        Check.due("count(2)", x.count(2), 5);
        Check.due("the least FULL", x.straw(0, 1), 1);
        Check.due("the most FULL", x.straw(1, 1), 99);
        Check.due("the second one's CLAIM", x.straw(1, 0), 1);
        Check.due("the fifth one's CLAIM", x.straw(4, 0), 1);
        Check.faulty(2, five + "#straw u a 1;");
        Check.faulty(2, "claim a 1 1;straw p a #0;");
        Check.faulty(2, "claim a 1 1;straw p a #100;");
        Check.faulty(2, "claim a 1 1;straw p a #00;");
        Check.faulty(2, "claim a 1 1;straw p a #4294967297;");
    }

    private static void members() {
        Doc.says("Terms 1", "MEMBERS, at most 5.");
        String five = "member a;member b;member c;member d;member e;";
        StrawMen x = Check.told(five);
        Check.due("count(3)", x.count(3), 5);
        Check.due("the fifth one", x.member(4, 0), 0);
        Check.faulty(2, five + "#member f;");
    }

    private static void holding() {
        Doc.says("Terms 1", "holds: a MEMBER HOLDS a CLAIM.");
        StringBuilder text = new StringBuilder(manyClaims(8) + "member a;member b;member c;member d;member e;");
        for (int i = 0; i < 40; i++) {
            text.append("holds ").append((char) ('a' + i % 5)).append(' ').append((char) ('a' + i / 5)).append(';');
        }
        StrawMen x = Check.told(text.toString());
        Check.due("all HOLD all", x.count(12), 40);
        StrawMen one = Check.told("claim a 1 1;claim b 1 1;member a;member b;holds a b;");
        Check.due("a HOLDS b", one.member(0, 0), 2);
        Check.due("b HOLDS nothing", one.member(1, 0), 0);
    }

    private static void debates() {
        Doc.says("Terms 1", "DEBATES, at most 12: a MEMBER with a STRAW on a NIGHT 0 .. 99.");
        String twelve = ONE + "debate y s 0;".repeat(6) + "debate y s 99;".repeat(6);
        StrawMen x = Check.told(twelve);
        Check.due("count(4)", x.count(4), 12);
        x.go(1);
        Check.due("BEATEN on NIGHT 0", x.member(1, 2), 6);
        x.go(98);
        Check.due("BEATEN ahead of NIGHT 99", x.member(1, 2), 6);
        x.go(1);
        Check.due("BEATEN on NIGHT 99", x.member(1, 2), 12);
        Check.due("it was y", x.member(0, 2), 0);
        Check.faulty(2, twelve + "#debate y s 0;");
        Check.faulty(2, ONE + "debate y s #100;");
        Check.faulty(2, ONE + "debate y s #4294967296;");
    }

    private static void stuffings() {
        Doc.says("Terms 1", "stuff, at most 6: a STRAW on a NIGHT 0 .. 99.");
        String six = "claim a 1 1;straw s a 1;straw t a 1;stuff s 0;stuff s 0;stuff s 0;stuff s 0;stuff s 0;stuff t 99;";
        StrawMen x = Check.told(six);
        x.go(1);
        Check.due("stuffed on NIGHT 0", x.straw(0, 1), 99);
        x.go(98);
        Check.due("not yet", x.straw(1, 1), 1);
        x.go(1);
        Check.due("the sixth one, on NIGHT 99", x.straw(1, 1), 99);
        Check.faulty(2, six + "#stuff t 1;");
        Check.faulty(2, "claim a 1 1;straw s a 1;stuff s #100;");
        Check.faulty(2, "claim a 1 1;straw s a 1;stuff s #4294967296;");
    }

    private static void damp() {
        Doc.says("Terms 1", "damp: of a hundred 0 .. 100 (0).");
        String straw = "claim a 1 1;straw s a 50;";
        int[] damp = {0, 1, 50, 100};
        long[] dry = {1, 99, 1, 0};
        for (int i = 0; i < damp.length; i++) {
            Check.due("dry by damp " + damp[i], Check.told("damp " + damp[i] + ";").dry(1, 0), dry[i]);
        }
        StrawMen wet = Check.told(straw + "damp 100;");
        wet.go(9);
        Check.due("FULL by damp 100", wet.straw(0, 1), 41);
        StrawMen untold = Check.told(straw);
        untold.go(200);
        Check.due("FULL without", untold.straw(0, 1), 50);
        Check.due("dry without", untold.dry(6, 0), 1);
        Check.faulty(2, "damp #101;");
        Check.faulty(2, "damp #4294967296;");
    }

    private static void seed() {
        Doc.says("Terms 1", "seed: 0 .. 99999 (0).");
        String straw = "claim a 1 1;straw s a 99;damp 50;";
        for (String told : new String[] {"", "seed 0;", "seed 1;", "seed 99999;"}) {
            StrawMen x = Check.told(straw + told);
            long last = told.isEmpty() ? 0 : Long.parseLong(told.substring(5, told.length() - 1));
            int full = 99;
            for (int night = 1; night <= 30; night++) {
                last = (last * 1103515245L + 12345L) % (1L << 31);
                full -= last / 65536 % 100 < 50 ? 1 : 0;
                x.go(1);
                Check.due("FULL behind " + night + " NIGHTS, '" + told + "'", x.straw(0, 1), full);
            }
        }
        Check.faulty(2, "seed #100000;");
        Check.faulty(2, "seed #4294967296;");
    }

    private static void numbered() {
        Doc.says("Terms 1", "All numbered as they come; CLAIMS, STRAW, MEMBERS have names of their kind.");
        StrawMen x = Check.told("member b;claim b 1 1;member a;straw b b 3;claim a 2 2;straw a a 4;contra a b;contra b a;");
        for (int what = 0; what < 3; what++) {
            Check.due("b of kind " + what, x.named(what, Check.letters("b")), 0);
            Check.due("a of kind " + what, x.named(what, Check.letters("a")), 1);
        }
        Check.due("the first CLAIM's WEIGHT", x.claim(0, 0), 1);
        Check.due("the second STRAW's FULL", x.straw(1, 1), 4);
        Check.due("the first contra goes", x.dropFor(1, 1), 1);
        Check.due("the second contra goes", x.dropFor(0, 1), 0);
        Check.faulty(4, "straw s #s 1;");
        Check.faulty(4, "member a;straw s #a 1;");
        Check.faulty(4, "claim a 1 1;straw s a 1;debate #a s 1;");
    }

    private static void newObject() {
        Doc.says("Promise 1", "A TEXT without LINES;");
        StrawMen x = new StrawMen();
        for (int what = 0; what < 16; what++) {
            Check.due("count(" + what + ")", x.count(what), 0);
        }
        Check.due("stand(0)", x.stand(0), 0);
        Check.due("straw(0, 0)", x.straw(0, 0), Check.NONE);
        Check.due("member(0, 0)", x.member(0, 0), Check.NONE);
        Check.due("law(0, 0, 0)", x.law(0, 0, 0), Check.NO_VALUE);
        Check.due("match(5)", x.match(5), 0);
        Check.due("dry(6, 1)", x.dry(6, 1), 1);
        Check.due("back()", x.back(), Check.NONE);
        Check.due("undo()", x.undo(), Check.NONE);
        Check.due("go(200)", x.go(200), 200);
        Doc.says("Promise 1", "an empty TAPE.");
        StrawMen y = new StrawMen();
        Check.due("text(1)", y.text(1), -2);
        Check.due("text(0)", y.text(0), 0);
        Check.due("feed", y.feed(0, 0, 0, 0, 0), 20);
    }

    private static void feeding() {
        Doc.says("Promise 2", "Twenty bytes come behind the TAPE, four of each number, the highest first: how many it has;");
        StrawMen x = new StrawMen();
        Check.due("'member x;member yz; '", x.feed(0x6d656d62, 0x65722078, 0x3b6d656d, 0x62657220, 0x797a3b20), 20);
        Check.due("'member abcdef;seed 9'", x.feed(0x6d656d62, 0x65722061, 0x62636465, 0x663b7365, 0x65642039), 40);
        Check.due("'9999;damp 100;      '", x.feed(0x39393939, 0x3b64616d, 0x70203130, 0x303b2020, 0x20202020), 60);
        Check.due("text(60)", x.text(60), 5);
        Check.due("the third MEMBER", x.named(2, Check.letters("abcdef")), 2);
        int blank = 0x20202020;
        for (int place = 0; place < 40; place++) {
            StrawMen y = new StrawMen();
            for (int from = 0; from < 40; from += 20) {
                int[] five = {blank, blank, blank, blank, blank};
                if (place >= from && place < from + 20) {
                    five[(place - from) / 4] |= 255 << 24 - 8 * (place % 4);
                }
                y.feed(five[0], five[1], five[2], five[3], five[4]);
            }
            Check.due("text with byte " + place + " of 255", y.text(40), Check.NONE);
            Check.due("its place", y.fault(1), place);
        }
    }

    private static void feedingTooMuch() {
        Doc.says("Promise 2", "NONE, and none come, if it would have more than 700.");
        StrawMen x = new StrawMen();
        int blank = 0x20202020;
        for (int i = 1; i <= 34; i++) {
            Check.due("feed " + i, x.feed(blank, blank, blank, blank, blank), 20 * i);
        }
        Check.due("the 35th", x.feed(0x2020206d, 0x656d6265, 0x7220783b, blank, 0x2020203b), 700);
        Check.due("the 36th", x.feed(-1, -1, -1, -1, -1), Check.NONE);
        Check.due("the 37th", x.feed(0, 0, 0, 0, 0), Check.NONE);
        Check.due("text(701)", x.text(701), -2);
        Check.due("text(720)", x.text(720), -2);
        Check.due("the first 700, the last of which is ';'", x.text(700), Check.NONE);
        Check.due("its FAULT", x.fault(0), 1);
        Check.due("its place", x.fault(1), 699);
        Check.due("there is room again", x.feed(blank, blank, blank, blank, blank), 20);
    }

    private static void firstBytes() {
        Doc.says("Promise 3", "The TAPE's first n bytes (it is empty then) are the TEXT");
        StrawMen x = new StrawMen();
        Check.feed(x, "member x;member y;");
        Check.due("text(9)", x.text(9), 1);
        Check.due("MEMBERS", x.count(3), 1);
        Check.due("text(1), it is empty", x.text(1), -2);
        Check.due("feed, it was empty", x.feed(-1, -1, -1, -1, -1), 20);
        Check.due("text(20) with a FAULT", x.text(20), Check.NONE);
        Check.due("text(1), it is empty then, too", x.text(1), -2);
        Check.due("feed, it was empty then, too", x.feed(-1, -1, -1, -1, -1), 20);
        Check.due("text(0), no bytes", x.text(0), 0);
        Check.due("MEMBERS by no bytes", x.count(3), 0);
        Check.due("text(1), it is empty behind no bytes, too", x.text(1), -2);
        StrawMen whole = new StrawMen();
        Check.feed(whole, " ".repeat(690) + "member xy;");
        Check.due("text(700)", whole.text(700), 1);
        StrawMen cut = new StrawMen();
        Check.feed(cut, " ".repeat(690) + "member xy;");
        Check.due("text(699)", cut.text(699), Check.NONE);
        Check.due("the place where more must come", cut.fault(1), 699);
    }

    private static void nothingOfEarlierTexts() {
        Doc.says("Promise 3", "The TAPE's first n bytes (it is empty then) are the TEXT");
        String large = "claim a 99 9;claim b 98 8;contra a b;contra b a;straw s a 99;straw t b 98;member x;member y;holds x a;holds y b;"
            + "debate x t 0;debate y s 1;stuff s 2;damp 99;seed 77;law lean 0;law wear 7;law turn 1 + 1;";
        String small = "claim c 1 1;claim d 9 1;straw u c 7;member z;holds z d;";
        // Large ones and a faulty one stand in every order ahead of the small one, however many texts the class holds.
        String[][] earlier = {{large}, {large, large}, {large, large, large}, {large, large + "!"}, {large + "!"},
            {large + "!", large, small}, {small, large, large + "!", large + "!"}};
        for (String[] texts : earlier) {
            StrawMen x = new StrawMen();
            for (String text : texts) {
                Check.tell(x, text);
                x.go(3);
                x.match(5);
                x.tried(3, 0, 9);
            }
            String behind = " behind " + texts.length + " texts";
            Check.due("LINES" + behind, Check.tell(x, small), 5);
            int[] due = {2, 0, 1, 1, 0, 0, 0, 0, 0, 0, 0, 7, 1, 0, 0, 0};
            for (int what = 0; what < 16; what++) {
                Check.due("count(" + what + ")" + behind, x.count(what), due[what]);
            }
            Check.due("AGAINST nothing" + behind, x.claim(0, 2) + x.claim(1, 2) + x.claim(0, 3) + x.claim(1, 3), 0);
            Check.due("no lean" + behind, x.law(0, 0, 0), Check.NO_VALUE);
            Check.due("no turn" + behind, x.law(2, 0, 0), Check.NO_VALUE);
            Check.due("no damp" + behind, x.dry(6, 0), 1);
            Check.due("no match" + behind, x.match(5), 0);
            Check.due("nothing is debated" + behind, x.ahead(9, 0, 0) + x.ahead(9, 1, 0) + x.ahead(9, 4, 0), 0);
            Check.due("nothing is stuffed" + behind, x.ahead(9, 2, 0), 7);
            Check.due("no straw s" + behind, x.named(1, Check.letters("s")), Check.NONE);
            Check.due("LINES with laws" + behind, Check.tell(x, small + "law turn 3;law wear 2 + 3;damp 50;"), 8);
            Check.due("turn" + behind, x.law(2, 0, 0), 3);
            Check.due("wear" + behind, x.law(1, 0, 0), 5);
            // By numbers from 0 on, as no seed is told: 0, 68, 88, 17, 98, 27 of a hundred.
            int[] full = {6, 6, 6, 5, 5, 4};
            for (int night = 0; night < full.length; night++) {
                x.go(1);
                Check.due("FULL behind NIGHT " + night + behind, x.straw(0, 1), full[night]);
            }
        }
    }

    /** An object that has everything which a text puts back. */
    static StrawMen busy() {
        StrawMen x = Check.told(ONE + "straw t b 1;damp 40;seed 7;debate x t 0;debate x t 3;debate y s 3;");
        x.go(5);
        x.see(1, 0, 1, true);
        x.see(1, 0, 1, true);
        x.known(1);
        x.debate(0, 0);
        x.keep();
        x.take(1, 1);
        return x;
    }

    private static void fresh() {
        Doc.says("Promise 3", "(NIGHT 0, all in the BARN, nobody WON, nothing SEEN, all KNOWN, no IMAGE, nothing to undo then):");
        StrawMen x = busy();
        Check.due("NIGHT ahead of it", x.count(6), 5);
        Check.due("in the SHED ahead of it", x.count(9), 1);
        Check.due("WON ahead of it", x.count(7), 2);
        Check.due("BEATEN ahead of it", x.count(8), 1);
        Check.due("PUT OFF ahead of it", x.count(10), 1);
        Check.due("KNOWN ahead of it", x.count(14), 1);
        Check.due("to undo ahead of it", x.count(15), 2);
        Check.due("LINES", Check.tell(x, ONE + "straw t b 1;damp 40;seed 7;"), 10);
        int[] due = {0, 0, 0, 0, 0, 51, 1, 0, 0, 0};
        for (int what = 6; what < 16; what++) {
            Check.due("count(" + what + ") then", x.count(what), due[what - 6]);
        }
        Check.due("straw(1, 2) then", x.straw(1, 2), 0);
        Check.due("straw(0, 1) then", x.straw(0, 1), 50);
        Check.due("member(0, 1) then", x.member(0, 1), 0);
        Check.due("back() then", x.back(), Check.NONE);
        Check.due("undo() then", x.undo(), Check.NONE);
        x.see(1, 0, 1, true);
        x.see(1, 0, 1, true);
        Check.due("all are KNOWN, also those to come", x.count(14), 2);
        StrawMen twin = Check.told(ONE + "straw t b 1;damp 40;seed 7;");
        for (int night = 1; night <= 30; night++) {
            x.go(1);
            twin.go(1);
            Check.due("FULL on NIGHT " + night + ", by numbers from the seed on", x.straw(0, 1), twin.straw(0, 1));
        }
    }

    private static void howManyLines() {
        Doc.says("Promise 3", "how many LINES;");
        Check.due("no bytes", new StrawMen().text(0), 0);
        Check.due("blanks", Check.tell(new StrawMen(), "   \n"), 0);
        Check.due("one", Check.tell(new StrawMen(), "seed 1;"), 1);
        Check.due("a hundred bytes", Check.tell(new StrawMen(), ONE + "law lean 1;"), 8);
        Check.due("all 40 that MEMBERS can HOLD", Check.tell(new StrawMen(), manyHolds()), 53);
    }

    private static String manyHolds() {
        StringBuilder text = new StringBuilder(manyClaims(8) + "member a;member b;member c;member d;member e;");
        for (int i = 0; i < 40; i++) {
            text.append("holds ").append((char) ('a' + i % 5)).append(' ').append((char) ('a' + i / 5)).append(';');
        }
        return text.toString();
    }

    private static void faultyStays() {
        Doc.says("Promise 3", "NONE with a FAULT, all stays;");
        String[] faulty = {"claim", "claim a 1 1;straw s a 100;", "member x;member x;", "contra a b;", "claim a 1 1;contra a a;",
            "claim c 1 1;damp 100;seed 1;law lean 1;law wear 2;member z;holds z c;straw q c 9;stuff q 1;debate z q 1;;"};
        for (String text : faulty) {
            StrawMen x = busy();
            StrawMen twin = busy();
            Check.due("text of " + text, Check.tell(x, text), Check.NONE);
            for (int what = 0; what < 16; what++) {
                Check.due("count(" + what + ") behind " + text, x.count(what), twin.count(what));
            }
            Check.due("named(0, a) behind " + text, x.named(0, Check.letters("a")), 0);
            Check.due("named(0, c) behind " + text, x.named(0, Check.letters("c")), Check.NONE);
            Check.due("law(0, 0, 0) behind " + text, x.law(0, 0, 0), Check.NO_VALUE);
            Check.due("claim(0, 2) behind " + text, x.claim(0, 2), 2);
            Check.due("member(1, 0) behind " + text, x.member(1, 0), 2);
            Check.due("undo() behind " + text, x.undo(), 1);
            Check.due("back() behind " + text, x.back(), 5);
            x.go(20);
            twin.back();
            twin.go(20);
            Check.due("FULL behind " + text, x.straw(0, 1), twin.straw(0, 1));
            Check.due("dry(2, 0) behind " + text, x.dry(2, 0), 9);
        }
    }

    private static void notSoMany() {
        Doc.says("Promise 3", "-2, and the TAPE stays: there are not so many, n is below 0.");
        StrawMen x = busy();
        Check.feed(x, "member q;");
        for (int n : new int[] {21, 22, 700, 701, Integer.MAX_VALUE, -1, -20, Integer.MIN_VALUE}) {
            Check.due("text(" + n + ")", x.text(n), -2);
            Check.due("NIGHT behind text(" + n + ")", x.count(6), 5);
            Check.due("to undo behind text(" + n + ")", x.count(15), 2);
        }
        Check.due("feed behind them", x.feed(0x6d656d62, 0x65722072, 0x3b202020, 0x20202020, 0x20202020), 40);
        Check.due("text(40)", x.text(40), 2);
        Check.due("q is told", x.named(2, Check.letters("q")), 0);
        Check.due("r is told", x.named(2, Check.letters("r")), 1);
        Check.due("text(1) of the empty TAPE", x.text(1), -2);
        Check.due("r is told yet", x.named(2, Check.letters("r")), 1);
    }

    private static void named() {
        Doc.says("Promise 5", "The number of a CLAIM (what 0), STRAW (1), MEMBER (2) by its letters, 5 bits each (a is 1; the first"
            + " one highest of six, 0 behind the last one);");
        StrawMen x = Check.told("claim zzzzzz 1 1;claim a 1 1;claim abcdef 1 1;straw z a 1;straw az a 1;member b;member aa;");
        Check.due("claim zzzzzz", x.named(0, 0x35ad6b5a), 0);
        Check.due("claim a", x.named(0, 1 << 25), 1);
        Check.due("claim abcdef", x.named(0, 1 << 25 | 2 << 20 | 3 << 15 | 4 << 10 | 5 << 5 | 6), 2);
        Check.due("straw z", x.named(1, 26 << 25), 0);
        Check.due("straw az", x.named(1, 1 << 25 | 26 << 20), 1);
        Check.due("member b", x.named(2, 2 << 25), 0);
        Check.due("member aa", x.named(2, 1 << 25 | 1 << 20), 1);
    }

    private static void notNamed() {
        Doc.says("Promise 5", "NONE: there is none such.");
        StrawMen x = Check.told("claim a 1 1;straw b a 1;member c;");
        int[] none = {0, 1, 1 << 20, 1 << 25 | 1, 1 << 25 | 1 << 30, 1 << 25 | 1 << 31, 1 << 26, 31 << 25, -1,
            Integer.MAX_VALUE, Integer.MIN_VALUE};
        for (int letters : none) {
            for (int what = 0; what < 3; what++) {
                boolean b = what == 1 && letters == 1 << 26;
                Check.due("named(" + what + ", " + letters + ")", x.named(what, letters), b ? 0 : Check.NONE);
            }
        }
        for (int more : new int[] {1 << 30, 1 << 31, 3 << 30, 1, 1 << 20}) {
            Check.due("a and " + more, x.named(0, Check.letters("a") | more), Check.NONE);
            Check.due("b and " + more, x.named(1, Check.letters("b") | more), Check.NONE);
            Check.due("c and " + more, x.named(2, Check.letters("c") | more), Check.NONE);
        }
        Check.due("no straw a", x.named(1, Check.letters("a")), Check.NONE);
        Check.due("no member b", x.named(2, Check.letters("b")), Check.NONE);
        Check.due("no claim c", x.named(0, Check.letters("c")), Check.NONE);
        Check.due("no claim of the language", x.named(0, Check.letters("claim")), Check.NONE);
        for (int what : Check.notOf(3)) {
            Check.due("named(" + what + ", a)", x.named(what, Check.letters("a")), Check.NONE);
        }
        Check.tell(x, "");
        Check.due("not by the TEXT of earlier", x.named(0, Check.letters("a")), Check.NONE);
        Check.due("of a new one", new StrawMen().named(0, 0), Check.NONE);
    }
}
