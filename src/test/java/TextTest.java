/** Promises 1 to 5: a new object, feed, text, fault, named, and what a text may tell. */
public final class TextTest {
    public static void main(String[] args) {
        newObject();
        feeding();
        telling();
        cutOff();
        tokens();
        tooMuch();
        twice();
        untold();
        laws();
        names();
        Check.end("TextTest");
    }

    private static void newObject() {
        StrawMen x = new StrawMen();
        for (int what = 0; what < 16; what++) {
            Check.due("new count(" + what + ")", x.count(what), 0);
        }
        Check.due("new fault(0)", x.fault(0), 0);
        Check.due("new fault(1)", x.fault(1), Check.NONE);
        Check.due("new text(0)", x.text(0), 0);
        Check.due("new text(1)", x.text(1), -2);
        Check.due("new ground", x.ground(), 0);
        Check.due("new back", new StrawMen().back(), Check.NONE);
    }

    private static void feeding() {
        StrawMen x = new StrawMen();
        for (int i = 1; i <= 35; i++) {
            Check.due("feed " + i, x.feed(0x20202020, 0x20202020, 0x0a0a0a0a, 0x20202020, 0x20202020), 20 * i);
        }
        Check.due("feed beyond 700", x.feed(0, 0, 0, 0, 0), Check.NONE);
        Check.due("text(701)", x.text(701), -2);
        Check.due("text(-1)", x.text(-1), -2);
        Check.due("text(700) of blanks", x.text(700), 0);
        Check.due("feed again", x.feed(-1, -1, -1, -1, -1), 20);
        Check.due("text of 255", x.text(20), Check.NONE);
        Check.due("fault of 255", x.fault(0), 1);
        Check.due("place of 255", x.fault(1), 0);
    }

    private static void telling() {
        StrawMen x = Check.told(Check.FIVE_CLAIMS);
        x.go(1);
        x.take(1, 0);
        x.keep();
        x.see(1, 0, 1, true);
        x.known(0);
        Check.due("a faulty text", Check.tell(x, "claim"), Check.NONE);
        Check.due("fault(0)", x.fault(0), 1);
        Check.due("fault(1)", x.fault(1), 5);
        Check.due("fault(2)", x.fault(2), Check.NONE);
        Check.due("fault(-1)", x.fault(-1), Check.NONE);
        Check.due("text beyond the tape", x.text(1), -2);
        Check.due("fault(0) stays behind -2", x.fault(0), 1);
        Check.due("night stays", x.count(6), 1);
        Check.due("claims stay", x.count(0), 5);
        Check.due("won stays", x.count(7), 1);
        Check.due("seen stays", x.count(13), 1);
        Check.due("known stays", x.count(14), 0);
        Check.due("undo stays", x.count(15), 1);
        Check.due("image stays", x.back(), 1);
        x.take(1, 0);
        Check.feed(x, "member m;member n;");
        Check.due("the first bytes alone", x.text(9), 1);
        Check.due("the tape is empty then", x.text(1), -2);
        Check.due("night 0", x.count(6), 0);
        Check.due("members", x.count(3), 1);
        Check.due("nobody won", x.count(7), 0);
        Check.due("nothing seen", x.count(13), 0);
        Check.due("all known", x.count(14), 0);
        Check.due("no image", x.back(), Check.NONE);
        Check.due("nothing to undo", x.undo(), Check.NONE);
        Check.due("fault(0) of a fine one", x.fault(0), 0);
        Check.due("fault(1) of a fine one", x.fault(1), Check.NONE);
        x.see(1, 0, 0, true);
        Check.due("all are known by again", x.count(14), 1);
    }

    /** What stands on the tape behind the first n bytes is no part of the text. */
    private static void cutOff() {
        String[] texts = {"member xy;", "damp 10;", "law lean 1<=2;", "law lean 1>=2;", "law lean 1<>2;"};
        int[] lengths = {8, 6, 11, 11, 11};
        for (int i = 0; i < texts.length; i++) {
            StrawMen x = new StrawMen();
            Check.feed(x, texts[i]);
            Check.due("cut off " + texts[i], x.text(lengths[i]), Check.NONE);
            Check.due("fault of cut off " + texts[i], x.fault(0), 1);
            Check.due("place of cut off " + texts[i], x.fault(1), lengths[i]);
        }
        StrawMen x = new StrawMen();
        Check.feed(x, "member xy;" + " ".repeat(9) + "x".repeat(681));
        Check.due("the tape is not empty behind it", x.text(19), 1);
        Check.feed(x, " ".repeat(690) + "member abc");
        Check.due("up to the last byte", x.text(700), Check.NONE);
        Check.due("place of the end", x.fault(1), 700);
    }

    private static void tokens() {
        Check.fine("", 0);
        Check.fine(" \n ", 0);
        Check.fine("claim a 1 1;", 1);
        Check.fine("claim\na1\n1\n;member a;straw a a01;", 3);
        Check.fine("claim a 0099 0009;", 1);
        Check.fine("claim abcdef 0 0;member abcdef;", 2);
        Check.faulty(1, "#;");
        Check.faulty(1, "claim a 1 1;#;");
        Check.faulty(1, "#\tclaim a 1 1;");
        Check.faulty(1, "#Claim a 1 1;");
        Check.faulty(1, "#claima 1 1;");
        Check.faulty(1, "claim #abcdefg 1 1;");
        Check.faulty(1, "claim #claim 1 1;");
        Check.faulty(1, "claim #held 1 1;");
        Check.faulty(1, "claim a 1 1;member x;holds x #or;");
        Check.faulty(1, "claim #1 1 1;");
        Check.faulty(1, "claim a #b 1;");
        Check.faulty(1, "claim a #-1 1;");
        Check.faulty(1, "claim a 1 1#");
        Check.faulty(1, "claim a 1 1   #");
        Check.faulty(1, "claim a 1 1 #1;");
        Check.faulty(1, "claim a 1 1;#contrary a b;");
        Check.faulty(1, "#lean 1;");
        Check.faulty(1, "claim a 1#\u00e9 1;");
        Check.faulty(1, "law lean 1;#weight");
    }

    private static void tooMuch() {
        Check.faulty(2, "claim a #100 1;");
        Check.faulty(2, "claim a #99999999999999999999 1;");
        Check.faulty(2, "claim a 99 #10;");
        Check.faulty(2, "claim a 1 1;straw s a #0;");
        Check.faulty(2, "claim a 1 1;straw s a #100;");
        Check.faulty(2, "damp #101;");
        Check.faulty(2, "seed #100000;");
        Check.fine("damp 100;seed 99999;", 2);
        String some = "claim a 1 1;straw s a 1;member x;";
        Check.faulty(2, some + "debate x s #100;");
        Check.faulty(2, some + "stuff s #100;");
        Check.fine(some + "debate x s 99;stuff s 99;", 5);
        Check.fine(some + times("debate x s 1;", 12) + times("stuff s 1;", 6), 21);
        Check.faulty(2, some + times("debate x s 1;", 12) + "#debate");
        Check.faulty(2, some + times("stuff s 1;", 6) + "#stuff s 1;");
        String eight = "";
        for (char c = 'a'; c < 'i'; c++) {
            eight += "claim " + c + " 1 1;";
        }
        Check.fine(eight, 8);
        Check.faulty(2, eight + "#claim a 1 1;");
        Check.faulty(2, "member a;member b;member c;member d;member e;#member f;");
        Check.faulty(2, "claim a 1 1;straw a a 1;straw b a 1;straw c a 1;straw d a 1;straw e a 1;#straw f a 1;");
        String contras = "";
        for (String two : "ab ac ad ae af ag ah ba bc bd be bf bg bh ca cb".split(" ")) {
            contras += "contra " + two.charAt(0) + " " + two.charAt(1) + ";";
        }
        Check.fine(eight + contras, 24);
        Check.faulty(2, eight + contras + "#contra c d;");
    }

    private static void twice() {
        Check.faulty(3, "claim a 1 1;claim #a 1 1;");
        Check.faulty(3, "member a;member #a;");
        Check.faulty(3, "claim a 1 1;straw a a 1;straw #a b 1;");
        Check.faulty(3, "claim a 1 1;claim b 1 1;contra a b;contra b a;contra a #b;");
        Check.faulty(3, "claim a 1 1;member x;member y;holds x a;holds y a;holds x #a;");
        Check.faulty(3, "damp 0;#damp 0;");
        Check.faulty(3, "seed 0;damp 1;#seed 0;");
        Check.faulty(3, "law turn 1;law #turn 1;");
        Check.fine("claim a 1 1;member a;straw a a 1;", 3);
    }

    private static void untold() {
        Check.faulty(4, "contra #a b;");
        Check.faulty(4, "claim a 1 1;contra a #b;");
        Check.faulty(5, "claim a 1 1;contra a #a;");
        Check.faulty(4, "member a;straw s #a 1;");
        Check.faulty(4, "claim a 1 1;holds #x a;member x;");
        Check.faulty(4, "member x;holds x #a;");
        Check.faulty(4, "member x;debate x #s 1;");
        Check.faulty(4, "claim a 1 1;straw s a 1;debate #x s 1;");
        Check.faulty(4, "stuff #s 1;");
    }

    private static void laws() {
        Check.faulty(1, "law#;");
        Check.faulty(1, "law #x 1;");
        Check.faulty(1, "law #night 1;");
        Check.faulty(1, "law #or 1;");
        Check.faulty(1, "law #not 1;");
        Check.faulty(1, "law lean#;");
        Check.faulty(1, "law lean #x;");
        Check.faulty(1, "law lean #claim;");
        Check.faulty(1, "law lean 1 #1;");
        Check.faulty(1, "law lean 1 #not 1;");
        Check.faulty(1, "law lean #-1;");
        Check.faulty(1, "law lean 1 < #not 1;");
        Check.faulty(1, "law lean 1 < 2 #< 3;");
        Check.faulty(1, "law lean 1 < #= 3;");
        Check.faulty(1, "law lean 1 > #< 3;");
        Check.faulty(1, "law lean 1 = #> 3;");
        Check.faulty(1, "law lean (1#;");
        Check.faulty(1, "law lean 1#);");
        Check.faulty(1, "law lean ()".replace(")", "#)") + ";");
        Check.faulty(1, "law lean 1 <#");
        Check.faulty(2, "law lean #10000;");
        Check.fine("law lean 9999;law wear not not night;law turn (1<2)=(2>=1)and 3<>4 or 5<=6;", 3);
        Check.fine("law lean ((((((((1))))))))+((1));", 1);
        Check.faulty(2, "law lean ((((((((#(1)))))))));");
        String ones = "1" + times("+1", 31);
        Check.fine("law lean " + ones + ";law turn 1;", 2);
        Check.faulty(2, "law lean " + ones + ";law turn 1#=1;");
        Check.faulty(2, "law lean " + ones + ";law turn 1;law wear #not 1;");
        Check.faulty(1, "law lean " + ones + ";law turn 1#(1);");
        Check.faulty(2, "law lean " + times("not ", 64) + "#not");
        Check.faulty(2, "law lean " + times("not ", 64) + "#not 1;");
        Check.faulty(2, "law lean " + times("not ", 64) + "#1;");
        Check.faulty(2, "law lean " + times("not ", 64) + "#night;");
        Check.faulty(1, "law lean " + times("not ", 64) + "#;");
        Check.faulty(1, "law lean " + times("not ", 64) + "#and");
        Check.faulty(1, "law lean " + times("not ", 64) + "#");
        Check.faulty(2, "law lean " + times("not ", 64) + "(#not 1);");
        Check.faulty(2, "law lean 1;law turn " + times("not ", 63) + "#not 1;");
        Check.faulty(2, "law lean 1 and " + times("not ", 62) + "#not 1;");
        Check.fine("law lean " + times("not ", 63) + "1;", 1);
        Check.fine("law lean 1;law turn " + times("not ", 62) + "1;", 2);
        for (String sign : "+ - * / and or".split(" ")) {
            Check.faulty(2, "law lean 1" + times(" " + sign + " 1", 31) + " " + sign + " #1;");
            Check.faulty(2, "law lean not 1" + times(" " + sign + " 1", 31) + " #" + sign + " 1;");
        }
        Check.due("knots", Check.told("law lean " + ones + ";law turn 1;").count(5), 64);
        Check.due("knots of all kinds", Check.told("law lean not (1 + night) * 2 <> 3 and 4 or 5;").count(5), 12);
    }

    private static void names() {
        StrawMen x = Check.told("claim abcdef 1 1;claim a 1 1;straw a a 1;member zz;member a;");
        Check.due("named claim", x.named(0, Check.letters("abcdef")), 0);
        Check.due("named claim a", x.named(0, 1 << 25), 1);
        Check.due("named straw a", x.named(1, Check.letters("a")), 0);
        Check.due("named member a", x.named(2, Check.letters("a")), 1);
        Check.due("named member zz", x.named(2, 26 << 25 | 26 << 20), 0);
        Check.due("named straw zz", x.named(1, Check.letters("zz")), Check.NONE);
        Check.due("named nothing", x.named(0, 0), Check.NONE);
        Check.due("named with more bits", x.named(0, 1 << 25 | 1 << 30), Check.NONE);
        Check.due("named otherwise packed", x.named(0, 1), Check.NONE);
        Check.due("named(3)", x.named(3, Check.letters("a")), Check.NONE);
        Check.due("named(-1)", x.named(-1, Check.letters("a")), Check.NONE);
    }

    private static String times(String text, int n) {
        return text.repeat(n);
    }
}
