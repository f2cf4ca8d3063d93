import java.util.List;

/** Sentences on faults: the end of the first part of 'Terms', promise 4. */
final class FaultSentences {
    private static final String SOME = "claim a 1 1;claim b 1 1;straw s a 1;member x;";
    private static final String EIGHT = "claim a 1 1;claim b 1 1;claim c 1 1;claim d 1 1;claim e 1 1;claim f 1 1;claim g 1 1;"
        + "claim h 1 1;";
    private static final List<String> BEGINS = List.of("claim", "contra", "straw", "member", "holds", "debate", "stuff", "damp",
        "seed", "law");
    // 63 knots, and room for no more than one.
    private static final String KNOTS_63 = "law lean 1" + "+1".repeat(31) + ";";

    private FaultSentences() {
    }

    static void all() {
        theFirst();
        theLeast();
        noToken();
        cannotStand();
        moreMustCome();
        numbersTooMuch();
        linesTooMany();
        bracketsTooMany();
        knotsTooMany();
        told();
        untold();
        itself();
        ofTheLatest();
        otherwise();
    }

    private static void theFirst() {
        Doc.says("Terms 1", "FAULTS, the first along the text (of one place the least), with its place:");
        Check.faulty(2, "claim a #100 10;claim a 1 1;!");
        Check.faulty(2, "claim a 1 #10;claim a 1 1;!");
        Check.faulty(3, "claim a 1 1;claim #a 100 1;!");
        Check.faulty(4, "straw s #a 100;damp 0;damp 0;");
        Check.faulty(5, "claim a 1 1;contra a #a;contra q q;");
        Check.faulty(1, "claim a 1 1#!claim a 100 1;");
        Check.faulty(3, "damp 0;#damp 101;");
        Check.faulty(2, "damp #101;damp 0;");
        Check.faulty(2, EIGHT + "#claim a 100 1;");
        Check.faulty(2, EIGHT + "#claim !");
        Check.faulty(3, SOME + "holds x a;holds x #a!");
        Check.faulty(5, SOME + "contra a #a!");
        Check.faulty(4, SOME + "contra a #q!");
        Check.faulty(4, SOME + "contra #q a!");
        Check.faulty(4, "contra #q q;");
        Check.faulty(3, "law lean 1;law #lean !");
        Check.faulty(2, "law lean #10000 !");
        Check.faulty(1, "law lean 1 #! 10000;");
        Check.faulty(1, "#!");
        Check.faulty(1, "   \n #!");
    }

    private static void theLeast() {
        Doc.says("Terms 1", "(of one place the least)");
        Check.faulty(1, "claim #100000 1 1;");
        Check.faulty(1, "law lean 1 #10000;");
        Check.faulty(1, EIGHT.substring(0, EIGHT.length() - 1) + " #claim i 1 1;");
        Check.faulty(1, "damp 0 #damp 0;");
        Check.faulty(1, "seed 0;damp #seed 0;");
        Check.faulty(1, "law lean ((((((((1 #(1)))))))));");
        Check.faulty(1, KNOTS_63 + "law turn 1 #1;");
        Check.faulty(1, KNOTS_63 + "law turn 1 #night;");
        Check.faulty(1, KNOTS_63 + "law turn 1 #not 1;");
        Check.faulty(1, KNOTS_63 + "law turn not #and 1;");
        Check.faulty(1, KNOTS_63 + "law turn not #< 1;");
        Check.faulty(1, "law lean 1" + "+1".repeat(30) + "<1;law turn 1#(1);");
        Check.faulty(1, "law lean not 1" + "+1".repeat(30) + "<1#<1;");
    }

    private static void noToken() {
        Doc.says("Terms 1", "1 a TOKEN that is none (a word of more than 6 letters that isn't of the language, too)");
        String tokens = "();<=>+-*/";
        for (int sign = 0; sign < 256; sign++) {
            boolean some = sign == 10 || sign == 32 || sign >= 'a' && sign <= 'z' || sign >= '0' && sign <= '9';
            if (!some && tokens.indexOf(sign) < 0 && sign != '#') {
                Check.faulty(1, "member x;#" + (char) sign + "member y;");
                Check.faulty(1, "law lean 1 + #" + (char) sign + "1;");
                Check.faulty(1, "law lean (1#" + (char) sign + ";");
                Check.faulty(1, "law #" + (char) sign + " 1;");
                Check.faulty(1, "stuff #" + (char) sign + " 1;");
                Check.faulty(1, "damp #" + (char) sign + ";");
            }
        }
        Check.faulty(1, "#contrast a b;");
        Check.faulty(1, "member #members;");
        Check.faulty(1, "member #weights;");
        Check.faulty(1, "member #temperr;");
        Check.faulty(1, "law lean #weights;");
        Check.faulty(1, "law lean (1 #bracket;");
        Check.faulty(1, "stuff #bracket 1;");
        Check.faulty(1, "law lean 1 #andorno 1;");
        Check.faulty(1, "claim a 1 1;contra #abcdefg a;");
        // Were its first six letters enough, it would be told already.
        Check.faulty(1, "claim abcdef 1 1;claim #abcdefg 1 1;");
        Check.faulty(1, "claim abcdef 1 1;member x;holds x #abcdefg;");
    }

    private static void cannotStand() {
        Doc.says("Terms 1", "or can't stand there");
        for (String word : TextSentences.LANGUAGE) {
            if (!BEGINS.contains(word)) {
                Check.faulty(1, "member x;#" + word + " 1;");
            }
            Check.faulty(1, "damp #" + word + ";");
            if (!word.equals("or") && !word.equals("and")) {
                Check.faulty(1, "law lean 1 #" + word + ";");
            }
        }
        Check.faulty(1, "member x;#x;");
        Check.faulty(1, "member x;#1;");
        // What stands in a number's place is no number, whatever the number ahead of it was.
        Check.faulty(1, "seed 99999;damp #x;");
        Check.faulty(1, "seed 99999;law lean #x;");
        Check.faulty(1, "claim a 0 0;straw s a #x;");
        Check.faulty(1, "claim a 99 #x;");
        Check.faulty(1, "seed 99999;claim a #;");
        Check.faulty(1, "seed 99999;damp #");
        // Nor is what stands in a name's place a name, whatever the name ahead of it was.
        Check.faulty(1, "member x;member #1;");
        Check.faulty(1, "member x;member #;");
        Check.faulty(1, "claim a 0 0;contra #1 a;");
        Check.faulty(1, "claim a 0 0;member x;holds x #1;");
        Check.faulty(1, "claim a 0 0;contra a #1;");
        Check.faulty(1, "claim a 0 0;contra a #;");
        for (String sign : "( ) < <= = <> >= > + - * /".split(" ")) {
            Check.faulty(1, "member x;#" + sign + ";");
            Check.faulty(1, "member #" + sign + ";");
            Check.faulty(1, "damp #" + sign + "1;");
            Check.faulty(1, "damp 1#" + sign + "1;");
        }
    }

    private static void moreMustCome() {
        Doc.says("Terms 1", "(the length, if more must come).");
        Check.faulty(1, "claim#");
        Check.faulty(1, "claim a 1 1;contra   \n #");
        Check.faulty(1, "claim a 1 1#");
        Check.faulty(1, "law lean 1+#");
        Check.faulty(1, "law lean (1#");
        Check.faulty(1, "law lean not #");
        Check.faulty(1, KNOTS_63 + "law turn 1#");
        Check.faulty(1, KNOTS_63 + "law turn not #");
        StrawMen x = new StrawMen();
        Check.feed(x, "member abc;");
        Check.due("text(8), the first letter alone", x.text(8), Check.NONE);
        Check.due("fault(0)", x.fault(0), 1);
        Check.due("fault(1)", x.fault(1), 8);
        StrawMen whole = new StrawMen();
        Check.feed(whole, " ".repeat(691) + "member ab");
        Check.due("text(700)", whole.text(700), Check.NONE);
        Check.due("fault(1) of 700", whole.fault(1), 700);
    }

    private static void numbersTooMuch() {
        Doc.says("Terms 1", "2 too much (at it): a number beyond what is said,");
        String[] ahead = {"claim c ", "claim c 0 ", "straw t a ", "debate x s ", "stuff s ", "damp ", "seed ", "law lean "};
        String[] behind = {" 0;", ";", ";", ";", ";", ";", ";", ";"};
        int[] most = {99, 9, 99, 99, 99, 100, 99999, 9999};
        for (int i = 0; i < most.length; i++) {
            String[] beyond = {"" + (most[i] + 1), "" + most[i] + "0", "999999999", "2147483648", "4294967297", "9223372036854775808",
                "18446744073709551617", "1" + "0".repeat(100)};
            Check.fine(SOME + ahead[i] + most[i] + behind[i], 5);
            Check.fine(SOME + ahead[i] + "000000000000" + most[i] + behind[i], 5);
            Check.fine(SOME + ahead[i] + "1" + behind[i], 5);
            for (String number : beyond) {
                Check.faulty(2, SOME + ahead[i] + "#" + number + behind[i]);
                Check.faulty(2, SOME + ahead[i] + "#" + number);
            }
        }
        Check.faulty(2, SOME + "straw t a #0;");
        Check.faulty(2, SOME + "straw t a #000;");
        for (int i : new int[] {0, 1, 3, 4, 5, 6, 7}) {
            Check.fine(SOME + ahead[i] + "0" + behind[i], 5);
        }
    }

    private static void linesTooMany() {
        Doc.says("Terms 1", "a ninth claim and so on (at the word of the LINE),");
        Check.faulty(2, EIGHT + "#claim");
        Check.faulty(2, EIGHT + "#claim a 1 1;");
        Check.faulty(2, EIGHT + "member x; #claim i 1 1;");
        StringBuilder contras = new StringBuilder(EIGHT);
        for (int i = 0; i < 16; i++) {
            contras.append("contra ").append((char) ('a' + i / 4)).append(' ').append((char) ('e' + i % 4)).append(';');
        }
        Check.fine(contras.toString(), 24);
        Check.faulty(2, contras + "#contra h a;");
        Check.faulty(2, contras + "#contra a a;");
        String straws = "claim a 1 1;straw a a 1;straw b a 1;straw c a 1;straw d a 1;straw e a 1;";
        Check.fine(straws, 6);
        Check.faulty(2, straws + "#straw f a 1;");
        Check.faulty(2, straws + "#straw a a 0;");
        String members = "member a;member b;member c;member d;member e;";
        Check.fine(members, 5);
        Check.faulty(2, members + "#member f;");
        Check.faulty(2, members + "#member a;");
        Check.fine(SOME + "debate x s 0;".repeat(12), 16);
        Check.faulty(2, SOME + "debate x s 0;".repeat(12) + "#debate x s 0;");
        Check.faulty(2, SOME + "debate x s 0;".repeat(12) + "#debate s x 100;");
        Check.fine(SOME + "stuff s 0;".repeat(6), 10);
        Check.faulty(2, SOME + "stuff s 0;".repeat(6) + "#stuff s 0;");
        Check.faulty(2, SOME + "stuff s 0;".repeat(6) + "#stuff x 100;");
    }

    private static void bracketsTooMany() {
        Doc.says("Terms 1", "a ninth '(' open,");
        Check.fine("law lean ((((((((1))))))));", 1);
        Check.faulty(2, "law lean ((((((((#(1)))))))));");
        Check.faulty(2, "law lean ((((((((#(");
        Check.fine("law lean ((((((((1))))))))+((((((((1))))))));law turn ((((((((1))))))));", 2);
        Check.fine("law lean (((((((" + "(1)+(1)" + ")))))));", 1);
        Check.faulty(2, "law lean (((((((1)+((#(1");
        Check.faulty(2, "law lean 1;law turn 1+((((((((1*#(");
        Check.faulty(2, "law lean not (not (not (not (not (not (not (not (not #(1))))))))));");
    }

    private static void knotsTooMany() {
        Doc.says("Terms 1", "a 65th KNOT of all E (N, NAMES, signs, not, and, or: one each).");
        Check.due("63 KNOTS", Check.told(KNOTS_63).count(5), 63);
        Check.due("64 KNOTS", Check.told(KNOTS_63 + "law turn 1;").count(5), 64);
        Check.faulty(2, KNOTS_63 + "law turn 1;law wear #1;");
        Check.faulty(2, KNOTS_63 + "law turn 1;law wear #night;");
        Check.faulty(2, KNOTS_63 + "law turn 1;law wear #not 1;");
        Check.faulty(2, KNOTS_63 + "law turn 1;law wear (((#1)));");
        for (String sign : "or and < <= = <> >= > + - * /".split(" ")) {
            Check.faulty(2, KNOTS_63 + "law turn 1 #" + sign + " 1;");
            Check.due("KNOTS of " + sign, Check.told("law lean 1 " + sign + " 1;").count(5), 3);
        }
        for (String name : "weight temper full force wins held night".split(" ")) {
            Check.faulty(2, KNOTS_63 + "law turn not #" + name + ";");
            Check.due("KNOTS of " + name, Check.told("law lean " + name + ";").count(5), 1);
        }
        Check.faulty(2, KNOTS_63 + "law turn not #10000;");
        Check.due("KNOTS of not", Check.told("law lean not not 1;").count(5), 3);
        Check.due("KNOTS of brackets", Check.told("law lean ((1));law turn (1)+(1);").count(5), 4);
        Check.faulty(2, "law lean " + "not ".repeat(64) + "#not 1;");
        Check.faulty(2, "law lean " + "not ".repeat(64) + "#1;");
        Check.fine("law lean " + "not ".repeat(63) + "1;", 1);
        Check.due("64 KNOTS, 63 of them not", Check.told("law lean " + "not ".repeat(63) + "1;").count(5), 64);
        String names = "law lean night" + "*night".repeat(31) + ";";
        Check.fine(names + "law wear night;", 2);
        Check.faulty(2, names + "law wear night#*night;");
        StrawMen x = new StrawMen();
        Check.due("64 KNOTS and a FAULT", Check.tell(x, KNOTS_63 + "law turn 1;!"), Check.NONE);
        Check.due("KNOTS stay", x.count(5), 0);
        Check.due("64 KNOTS told once more", Check.tell(x, KNOTS_63 + "law turn 1;"), 2);
        Check.due("and over them", Check.tell(x, KNOTS_63 + "law turn 1;"), 2);
        Check.due("KNOTS then", x.count(5), 64);
        Check.due("a 65th", Check.tell(x, KNOTS_63 + "law turn 1=1;"), Check.NONE);
        Check.due("KNOTS behind a FAULT", x.count(5), 64);
    }

    private static void told() {
        Doc.says("Terms 1", "3 told already: a name of its kind (at W), a contra of the same two in this order, a CLAIM one HOLDS (at"
            + " the second W), damp, seed (at the word), a law of its LAW (at LAW).");
        Check.faulty(3, "claim a 1 1;claim #a 1 1;");
        Check.faulty(3, "claim abcdef 1 1;claim abcde 1 1;claim #abcdef 2 2;");
        Check.faulty(3, "claim a 1 1;straw s a 1;straw #s a 1;");
        Check.faulty(3, "claim a 1 1;straw s a 1;straw #s q 1;");
        Check.faulty(3, "member x;member #x;");
        Check.fine("claim a 1 1;straw a a 1;member a;", 3);
        Check.faulty(3, SOME + "contra a b;contra a #b;");
        Check.faulty(3, SOME + "contra a b;contra b a;contra b #a;");
        Check.fine(SOME + "contra a b;contra b a;", 6);
        Check.faulty(3, SOME + "holds x a;holds x #a;");
        Check.faulty(3, SOME + "holds x a;holds x b;holds x #b;");
        Check.fine(SOME + "member y;holds x a;holds y a;holds x b;", 8);
        Check.faulty(3, "damp 0;#damp 0;");
        Check.faulty(3, "damp 7;seed 1;#damp 7;");
        Check.faulty(3, "seed 0;#seed 0;");
        Check.faulty(3, "seed 0;#seed");
        for (String law : "lean wear turn".split(" ")) {
            Check.faulty(3, "law " + law + " 0;law #" + law + " 0;");
            Check.faulty(3, "law " + law + " 0;law #" + law);
        }
        Check.fine("law lean 0;law wear 0;law turn 0;", 3);
        Check.fine(SOME + "debate x s 1;debate x s 1;stuff s 1;stuff s 1;", 8);
        // What a faulty text told is not told.
        StrawMen x = new StrawMen();
        Check.due("a faulty text", Check.tell(x, "damp 1;seed 1;law lean 1;claim a 1 1;member x;holds x a;!"), Check.NONE);
        Check.due("the same once more", Check.tell(x, "damp 1;seed 1;law lean 1;claim a 1 1;member x;holds x a;"), 6);
        Check.due("and over it", Check.tell(x, "damp 1;seed 1;law lean 1;claim a 1 1;member x;holds x a;"), 6);
    }

    private static void untold() {
        Doc.says("Terms 1", "4 a CLAIM, a STRAW, a MEMBER that isn't told ahead (at W).");
        Check.faulty(4, "contra #a b;claim a 1 1;claim b 1 1;");
        Check.faulty(4, "claim a 1 1;contra #b a;claim b 1 1;");
        Check.faulty(4, "claim a 1 1;contra a #b;claim b 1 1;");
        Check.faulty(4, "straw s #a 1;claim a 1 1;");
        Check.faulty(4, "claim a 1 1;holds #x a;member x;");
        Check.faulty(4, "member x;holds x #a;claim a 1 1;");
        Check.faulty(4, "claim a 1 1;straw s a 1;debate #x s 1;member x;");
        Check.faulty(4, "member x;claim a 1 1;debate x #s 1;straw s a 1;");
        Check.faulty(4, "claim a 1 1;stuff #s 1;straw s a 1;");
        // One of another kind doesn't do, nor does one whose letters begin alike.
        Check.faulty(4, SOME + "contra a #s;");
        Check.faulty(4, SOME + "stuff #x 1;");
        Check.faulty(4, SOME + "holds #s a;");
        Check.faulty(4, SOME + "contra a #bb;");
        Check.faulty(4, "claim ab 1 1;straw s #a 1;");
        // What an earlier text told isn't told.
        StrawMen x = Check.told(SOME);
        Check.due("told by the text of earlier", Check.tell(x, "contra a b;"), Check.NONE);
        Check.due("fault(0)", x.fault(0), 4);
    }

    private static void itself() {
        Doc.says("Terms 1", "5 a CLAIM AGAINST itself (at the second W).");
        Check.faulty(5, "claim a 1 1;contra a #a;");
        Check.faulty(5, SOME + "contra a b;contra b a;contra b #b;");
        Check.faulty(5, EIGHT + "contra h #h;");
    }

    private static void ofTheLatest() {
        Doc.says("Promise 4", "Of the latest text() that was not -2, what 0: its FAULT (0), 1: its place (NONE without).");
        StrawMen x = new StrawMen();
        Check.due("fault(0) of a new one", x.fault(0), 0);
        Check.due("fault(1) of a new one", x.fault(1), Check.NONE);
        Check.due("text(1) of a new one", x.text(1), -2);
        Check.due("fault(0) behind -2", x.fault(0), 0);
        Check.due("fault(1) behind -2", x.fault(1), Check.NONE);
        String[] texts = {"!", "damp 101;", "member x;member x;", "stuff s 1;", "claim a 1 1;contra a a;"};
        int[] places = {0, 5, 16, 6, 21};
        for (int i = 0; i < texts.length; i++) {
            Check.due(texts[i], Check.tell(x, texts[i]), Check.NONE);
            for (int n : new int[] {1, -1, 700}) {
                Check.due("fault(0) of " + texts[i], x.fault(0), i + 1);
                Check.due("fault(1) of " + texts[i], x.fault(1), places[i]);
                Check.due("text(" + n + ") behind it", x.text(n), -2);
            }
        }
        Check.feed(x, "member y;");
        Check.due("feeding is no text, fault(0)", x.fault(0), 5);
        Check.due("a fine one", x.text(9), 1);
        Check.due("fault(0) of a fine one", x.fault(0), 0);
        Check.due("fault(1) of a fine one", x.fault(1), Check.NONE);
        Check.due("!", Check.tell(x, "  !"), Check.NONE);
        Check.due("no bytes", x.text(0), 0);
        Check.due("fault(0) of no bytes", x.fault(0), 0);
        Check.due("fault(1) of no bytes", x.fault(1), Check.NONE);
    }

    private static void otherwise() {
        Doc.says("Promise 4", "NONE for another what.");
        StrawMen x = new StrawMen();
        Check.tell(x, "   damp 101;");
        for (int what : Check.notOf(2)) {
            Check.due("fault(" + what + ")", x.fault(what), Check.NONE);
        }
        Check.due("fault(1)", x.fault(1), 8);
    }
}
