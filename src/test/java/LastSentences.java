/**
 * The last one of each kind that there may be: the eighth claim, the 16th contra, the fifth straw and member, the twelfth
 * debate, the sixth stuffing, the 64th knot, the 24th seen, the 700th byte. What holds of the others holds of these.
 */
final class LastSentences {
    private static final String CLAIMS = "claim a 10 0;claim b 20 1;claim c 30 2;claim d 40 3;claim e 50 4;claim f 60 5;"
        + "claim g 70 6;claim h 80 7;";
    private static final String FOUR_STRAW = "straw p a 50;straw q b 50;straw r c 50;straw s g 50;";
    private static final String FOUR_MEMBERS = "member v;member w;member x;member y;";
    // t LEANS by 40 at first and by 32 worn once; z HOLDS g, by which he WINS with it, and is BEATEN by p.
    private static final String LAST = CLAIMS + "contra g h;contra h g;contra h f;" + FOUR_STRAW + "straw t h 50;"
        + FOUR_MEMBERS + "member z;holds z g;";
    // Fourteen contra that leave a and b alone, then both of these AGAINST h.
    private static final String SIXTEEN = CLAIMS + contras("cd dc ce ec cf fc de ed df fd ef fe cg dg ah bh") + FOUR_MEMBERS
        + "member z;holds y h;holds z b;";

    private LastSentences() {
    }

    static void all() {
        tape();
        toldAgain();
        toldAlready();
        knots();
        names();
        claims();
        strawAndMembers();
        forces();
        laws();
        calls();
        nights();
        ahead();
        sets();
        replies();
        weaker();
        drops();
        twoMembers();
        matches();
        seen();
        chances();
        tried();
        undone();
        images();
    }

    private static String contras(String pairs) {
        StringBuilder text = new StringBuilder();
        for (String two : pairs.split(" ")) {
            text.append("contra ").append(two.charAt(0)).append(' ').append(two.charAt(1)).append(';');
        }
        return text.toString();
    }

    /** The text, with blanks ahead of it so that its last byte is the 700th. */
    private static String upTo700(String text) {
        return " ".repeat(700 - text.length()) + text;
    }

    private static void tape() {
        Doc.says("Promise 2", "NONE, and none come, if it would have more than 700.");
        Check.fine(upTo700("damp 10;"), 1);
        Check.fine("damp 10;" + " ".repeat(692), 1);
        Check.fine("damp 10;" + "\n".repeat(692), 1);
        Doc.says("Terms 1", "(the length, if more must come).");
        for (String cut : new String[] {"damp 10", "member ab", "law lean 1<=", "law lean 1<>", "law lean 1>=", "law lean 1<", "damp 1 ",
            "law lean full", "law lean ("}) {
            Check.faulty(1, upTo700(cut) + "#");
        }
        Check.faulty(1, upTo700("damp 10; #;"));
        Check.faulty(2, upTo700("damp #101"));
        Check.faulty(1, upTo700("damp 10#!"));
    }

    private static void toldAgain() {
        Doc.says("Promise 3", "The TAPE's first n bytes (it is empty then) are the TEXT");
        StrawMen x = Check.told(LAST);
        for (int time = 0; time < 3; time++) {
            Check.due("LINES without contra", Check.tell(x, CLAIMS), 8);
            Check.due("the eighth is AGAINST none", x.claim(7, 2), 0);
            Check.due("none is AGAINST the eighth", x.claim(7, 3), 0);
            Check.due("all are the GROUND", x.ground(), 255);
            Check.due("LINES with contra", Check.tell(x, LAST), 22);
            Check.due("the eighth is AGAINST f and g", x.claim(7, 2), 96);
            Check.due("g is AGAINST the eighth", x.claim(7, 3), 64);
        }
    }

    private static void toldAlready() {
        Doc.says("Terms 1", "3 told already: a name of its kind (at W), a contra of the same two in this order, a CLAIM one HOLDS (at"
            + " the second W),");
        Check.faulty(3, LAST + "holds z h;holds z #h;");
        Check.faulty(3, LAST + "holds z #g;");
        Check.fine(LAST + "holds y h;holds z h;", 24);
        Check.faulty(3, CLAIMS.replace("claim h", "claim #g"));
        Check.faulty(3, CLAIMS.replace("claim h", "claim #a"));
        Check.faulty(3, CLAIMS + FOUR_STRAW + "straw #s h 50;");
        Check.faulty(3, FOUR_MEMBERS + "member #y;");
        Check.faulty(3, SIXTEEN.replace("contra b h;", "contra a #h;"));
        Check.fine(SIXTEEN.replace("contra b h;", "contra h a;"), 31);
    }

    private static void knots() {
        Doc.says("Terms 1", "a 65th KNOT of all E (N, NAMES, signs, not, and, or: one each).");
        String sum = "1" + "+1".repeat(31);
        StrawMen x = Check.told(LAST + "law turn not (" + sum + ");");
        Check.due("KNOTS", x.count(5), 64);
        Check.due("not 32", x.law(2, 4, 4), 0);
        StrawMen y = Check.told(LAST + "law turn " + sum.replaceFirst("1", "(not 0)") + ";");
        Check.due("KNOTS of a sum with a not", y.count(5), 64);
        Check.due("a sum with a not", y.law(2, 4, 4), 32);
        StrawMen z = Check.told(LAST + "law turn " + "not ".repeat(63) + "0;");
        Check.due("63 times not", z.law(2, 4, 4), 1);
        Check.faulty(2, LAST + "law turn not (" + sum + "#+1);");
        Check.faulty(2, LAST + "law turn not not (" + sum.substring(0, sum.length() - 1) + "#1);");
        // 32 joints of one kind are too much at the last number, in brackets upon brackets, too.
        Check.faulty(2, LAST + "law turn 1" + "*1".repeat(31) + "*#1;");
        Check.due("the last of 64 KNOTS, of the third law", Check.told(LAST + "law lean 1" + "+1".repeat(15) + ";law wear not 1;"
            + "law turn 2" + "+2".repeat(15) + ";").law(2, 4, 4), 32);
    }

    private static void names() {
        Doc.says("Promise 5", "The number of a CLAIM (what 0), STRAW (1), MEMBER (2) by its letters, 5 bits each (a is 1; the first"
            + " one highest of six, 0 behind the last one);");
        StrawMen x = Check.told(LAST);
        Check.due("the eighth CLAIM", x.named(0, Check.letters("h")), 7);
        Check.due("the fifth STRAW", x.named(1, Check.letters("t")), 4);
        Check.due("the fifth MEMBER", x.named(2, Check.letters("z")), 4);
    }

    private static void claims() {
        Doc.says("Promise 6", "Of a CLAIM, what 0 WEIGHT, 1 TEMPER, 2 CLAIMS (bits) it is AGAINST, 3 CLAIMS (bits) AGAINST it.");
        StrawMen x = Check.told(LAST);
        int[] due = {80, 7, 96, 64};
        for (int what = 0; what < 4; what++) {
            Check.due("claim(7, " + what + ")", x.claim(7, what), due[what]);
        }
        Check.due("AGAINST g", x.claim(6, 3), 128);
        Check.due("by the last two of sixteen contra", Check.told(SIXTEEN).claim(7, 3), 3);
    }

    private static void strawAndMembers() {
        Doc.says("Promise 7", "Of a STRAW now, what 0 its CLAIM, 1 FULL, 2 whether in the SHED (1, 0).");
        StrawMen x = Check.told(LAST + "law wear 50;debate z t 0;");
        Check.due("straw(4, 0)", x.straw(4, 0), 7);
        Check.due("straw(4, 1)", x.straw(4, 1), 50);
        Check.due("straw(4, 2)", x.straw(4, 2), 0);
        x.go(1);
        Check.due("straw(4, 1) then", x.straw(4, 1), 0);
        Check.due("straw(4, 2) then", x.straw(4, 2), 1);
        Check.due("straw(3, 2) then", x.straw(3, 2), 0);
        Doc.says("Promise 8", "Of a MEMBER now, what 0 CLAIMS (bits) he HOLDS, 1 how often he WON, 2 was BEATEN.");
        StrawMen y = Check.told(LAST + "debate z t 0;debate z p 0;");
        Check.due("member(4, 0)", y.member(4, 0), 64);
        Check.due("member(4, 1)", y.member(4, 1), 0);
        Check.due("member(4, 2)", y.member(4, 2), 0);
        y.go(1);
        Check.due("member(4, 1) then", y.member(4, 1), 1);
        Check.due("member(4, 2) then", y.member(4, 2), 1);
    }

    private static void forces() {
        Doc.says("Promise 9", "FORCE of a MEMBER with a CLAIM now;");
        StrawMen x = Check.told(LAST);
        Check.due("of the fifth with the eighth", x.force(4, 7), 70);
        Check.due("of the fourth, who HOLDS nothing", x.force(3, 7), 0);
        x.take(4, 7);
        Check.due("by the eighth", x.force(4, 6), 80);
        Check.due("by the eighth with f", x.force(4, 5), 80);
    }

    private static void laws() {
        Doc.says("Promise 10", "A law's E now of a STRAW with a MEMBER (what 0 lean, 1 wear, 2 turn).");
        StrawMen x = Check.told(LAST + "law turn wins * 1000 + held * 100 + full;law wear temper * 100 + force;");
        Check.due("of the fifth with the fifth", x.law(2, 4, 4), 150);
        Check.due("the eighth's TEMPER, FORCE", x.law(1, 4, 4), 770);
        x.take(4, 7);
        Check.due("with g, FORCE by the eighth", x.law(1, 3, 4), 680);
        Check.due("HELD by the fifth", x.law(2, 4, 4), 250);
        StrawMen won = Check.told(LAST + "law turn wins * 1000 + held * 100 + full;");
        won.debate(4, 4);
        Check.due("WON by the fifth", won.law(2, 4, 4), 1140);
    }

    private static void calls() {
        Doc.says("Promise 11", "A MEMBER debates a STRAW now (as in (2)): 1: he WINS, 0: he is BEATEN;");
        StrawMen x = Check.told(LAST + "law turn 1;");
        Check.due("the fifth WINS with the fifth", x.debate(4, 4), 1);
        Check.due("FULL is less", x.straw(4, 1), 40);
        Check.due("the fourth is BEATEN", x.debate(3, 4), 0);
        Check.due("he HOLDS the eighth", x.member(3, 0), 128);
        Check.due("the fifth is BEATEN", x.debate(4, 0), 0);
        Check.due("he HOLDS the first, too", x.member(4, 0), 65);
        Doc.says("Promise 12", "A MEMBER HOLDS a CLAIM from now on: how many he HOLDS;");
        Check.due("take(4, 7)", x.take(4, 7), 3);
        Check.due("the eighth, too", x.member(4, 0), 193);
        Check.due("HELD by all", x.count(12), 4);
        Doc.says("Promise 12", "NONE: no such ones, he does.");
        Check.due("take(4, 7) again", x.take(4, 7), Check.NONE);
        Check.due("take(4, 8)", x.take(4, 8), Check.NONE);
        Check.due("take(5, 7)", x.take(5, 7), Check.NONE);
        Doc.says("Promise 13", "A MEMBER gives a CLAIM up: true;");
        Check.due("drop(4, 7)", x.drop(4, 7), true);
        Check.due("without the eighth", x.member(4, 0), 65);
        Doc.says("Promise 13", "false: no such ones, he doesn't HOLD it.");
        Check.due("drop(4, 7) again", x.drop(4, 7), false);
        Check.due("drop(4, 8)", x.drop(4, 8), false);
        Check.due("drop(5, 7)", x.drop(5, 7), false);
    }

    private static void nights() {
        Doc.says("Promise 14", "So many NIGHTS (0 .. 200) go by: which one it is;");
        StrawMen x = Check.told(LAST + "debate v p 90;".repeat(11) + "debate z t 1;" + "stuff p 80;".repeat(5) + "stuff t 2;damp 100;");
        Check.due("DEBATES told", x.count(4), 12);
        int[] full = {49, 38, 98, 97};
        int[] won = {0, 1, 1, 1};
        for (int night = 0; night < 4; night++) {
            Check.due("go(1)", x.go(1), night + 1);
            Check.due("FULL of the fifth behind NIGHT " + night, x.straw(4, 1), full[night]);
            Check.due("WON by the fifth behind NIGHT " + night, x.member(4, 1), won[night]);
        }
        StrawMen shed = Check.told(LAST + "debate z t 1;".repeat(12) + "stuff q 0;".repeat(5) + "stuff t 2;damp 100;law wear 99;"
            + "law lean 1 - 1;");
        Check.due("two NIGHTS", shed.go(2), 2);
        Check.due("the fifth is in the SHED", shed.straw(4, 2), 1);
        Check.due("WON, once it was FULL 0, too", shed.member(4, 1), 12);
        Check.due("the third NIGHT", shed.go(1), 3);
        Check.due("the fifth is in the BARN", shed.straw(4, 2), 0);
        Check.due("the fifth is stuffed, and damp", shed.straw(4, 1), 98);
        StrawMen off = Check.told(LAST + "debate z t 0;" + "debate z t 1;".repeat(11) + "law wear 50;");
        off.go(2);
        Check.due("PUT OFF up to the twelfth", off.count(10), 11);
    }

    private static void ahead() {
        Doc.says("Promise 15", "AHEAD (n 0 .. 200), what 0 WON, 1 BEATEN, 2 FULL, 3 in the SHED, 4 PUT OFF (of all but 2 the STRAW isn't"
            + " looked at).");
        StrawMen x = Check.told(LAST + "debate v p 90;".repeat(10) + "debate z p 1;debate z t 1;" + "stuff p 80;".repeat(5)
            + "stuff t 2;damp 50;");
        int[] full = {50, 49, 38, 98, 97};
        int[] more = {0, 0, 1, 1, 1};
        for (int n = 0; n < 5; n++) {
            Check.due("FULL of the fifth, ahead(" + n + ", 2, 4)", x.ahead(n, 2, 4), full[n]);
            Check.due("WON, ahead(" + n + ", 0, 4)", x.ahead(n, 0, 4), more[n]);
            Check.due("BEATEN, ahead(" + n + ", 1, 4)", x.ahead(n, 1, 4), more[n]);
        }
        // From now on: the fifth of both has been debated by call.
        x.debate(4, 4);
        x.debate(4, 0);
        Check.due("FULL of the fifth from now on", x.ahead(1, 2, 4), 39);
        Check.due("WON from now on", x.ahead(0, 0, 0), 0);
        Check.due("BEATEN from now on", x.ahead(0, 1, 0), 0);
        Check.due("WON more", x.ahead(2, 0, 0), 1);
        Check.due("BEATEN more", x.ahead(2, 1, 0), 1);
        x.drop(4, 6);
        Check.due("WON more, without g", x.ahead(2, 0, 0), 0);
        Doc.says("Promise 16", "SHEDS;");
        Check.due("sheds(4)", Check.told(LAST + "damp 50;").sheds(4), 50);
        StrawMen worn = Check.told(LAST + "damp 100;");
        worn.debate(4, 4);
        Check.due("sheds(4), worn", worn.sheds(4), 40);
        worn.go(40);
        Check.due("sheds(4), it is", worn.sheds(4), 0);
        Doc.says("Promise 15", "AHEAD (n 0 .. 200), what 0 WON, 1 BEATEN, 2 FULL, 3 in the SHED, 4 PUT OFF (of all but 2 the STRAW isn't"
            + " looked at).");
        StrawMen shed = Check.told(LAST + "damp 100;debate z t 40;stuff t 41;");
        shed.debate(4, 4);
        Check.due("the fifth alone is in the SHED", shed.ahead(40, 3, 0), 1);
        Check.due("PUT OFF for it", shed.ahead(41, 4, 0), 1);
        Check.due("it is stuffed", shed.ahead(42, 3, 0), 0);
        Check.due("the other four are", shed.ahead(50, 3, 0), 4);
    }

    private static void sets() {
        Doc.says("Promise 17", "Of a SET of CLAIMS (bits), what 0 whether it is CALM, 1 STANDS, 2 DEFENDS itself (1, 0).");
        StrawMen x = Check.told(LAST);
        int[][] due = {{128, 1, 0, 1}, {192, 0, 0, 0}, {160, 0, 0, 0}, {159, 1, 1, 1}, {127, 1, 1, 1}, {255, 0, 0, 0}, {32, 1, 0, 0},
            {31, 1, 0, 1}};
        for (int[] row : due) {
            for (int what = 0; what < 3; what++) {
                Check.due("set(" + row[0] + ", " + what + ")", x.set(row[0], what), row[what + 1]);
            }
        }
        Doc.says("Promise 18", "STANDING, what 0: how many, 1: CLAIMS (bits) of all (0, if none STANDS), 2: of any (0, if none STANDS or"
            + " nothing does).");
        Check.due("how many", x.standing(0), 2);
        Check.due("of all", x.standing(1), 31);
        Check.due("of any", x.standing(2), 255);
        Doc.says("Promise 19", "The k-th SET that STANDS, from 0 on (bits);");
        Check.due("without the eighth", x.stand(0), 127);
        Check.due("with the eighth", x.stand(1), 159);
        Doc.says("Promise 20", "GROUND (bits).");
        Check.due("a to e", x.ground(), 31);
        Check.due("the eighth is kept out by a and b", Check.told(SIXTEEN).ground(), 3);
        Doc.says("Promise 21", "LARGEST (bits).");
        Check.due("a to g", x.largest(), 127);
    }

    private static void replies() {
        Doc.says("Promise 22", "REPLIES, what 0: who wins (0: who named it, 1: the other one), 1: the first reply by which the other one"
            + " wins, the first by numbers (-2: he can't win).");
        StrawMen x = Check.told(LAST);
        Check.due("g to the eighth", x.replies(7, 0), 1);
        Check.due("g to the eighth, which", x.replies(7, 1), 6);
        Check.due("the eighth to g, which", x.replies(6, 1), 7);
        Check.due("the eighth to f, then g", x.replies(5, 0), 0);
        Check.due("a to the eighth by the 15th contra", Check.told(SIXTEEN).replies(7, 1), 0);
        Check.due("b to the eighth by the 16th contra", Check.told(SIXTEEN.replace("contra a h", "contra c h")
            .replace("contra c g;", "contra b c;")).replies(7, 1), 1);
    }

    private static void weaker() {
        Doc.says("Promise 23", "WEAKER;");
        String light = CLAIMS.replace("claim h 80", "claim h 9");
        Check.due("the eighth is the lightest of all others", Check.told(light).weaker(0), 7);
        Check.due("of the eighth, all others", Check.told(light).weaker(7), 0);
        Check.due("the eighth alone is AGAINST b as well", Check.told(CLAIMS + contras("ab hb")).weaker(0), 7);
        Check.due("of the eighth", Check.told(CLAIMS + contras("ab hb")).weaker(7), 0);
        Check.due("AGAINST the eighth as well", Check.told(CLAIMS + contras("ah gh")).weaker(0), 6);
        Check.due("of the last two of sixteen", Check.told(SIXTEEN).weaker(0), 1);
    }

    private static void drops() {
        Doc.says("Promise 24", "DROP, what 0: how many (0: it is of the GROUND as it is), 1, 2: the number of the first, second contra (-2:"
            + " not so many).");
        int[] one = {1, 0, -2};
        int[] two = {2, 14, 15};
        int[] eighth = {1, 1, -2};
        StrawMen x = Check.told(LAST);
        StrawMen sixteen = Check.told(SIXTEEN);
        for (int what = 0; what < 3; what++) {
            Check.due("for the eighth, dropFor(7, " + what + ")", x.dropFor(7, what), one[what]);
            Check.due("for g, what the eighth does, dropFor(6, " + what + ")", x.dropFor(6, what), eighth[what]);
            Check.due("the last two of sixteen, dropFor(7, " + what + ")", sixteen.dropFor(7, what), two[what]);
        }
        Check.due("the eighth is AGAINST a alone", Check.told(CLAIMS + "contra h a;").dropFor(0, 0), 1);
        Check.due("a is AGAINST the eighth alone", Check.told(CLAIMS + "contra a h;").dropFor(7, 0), 1);
    }

    private static void twoMembers() {
        Doc.says("Promise 25", "POINTS;");
        StrawMen x = Check.told(SIXTEEN);
        Check.due("by the 16th contra", x.points(3, 4), 1);
        Check.due("by the 16th contra, the other way", x.points(4, 3), 1);
        x.take(4, 0);
        Check.due("by the 15th and the 16th", x.points(3, 4), 2);
        Doc.says("Promise 26", "AGREED (bits);");
        Check.due("nothing yet", x.agreed(3, 4), 0);
        x.take(4, 7);
        Check.due("the eighth", x.agreed(3, 4), 128);
        Check.due("the eighth, the other way", x.agreed(4, 3), 128);
        Doc.says("Promise 29", "The k-th: ten times the first one's and the second one's;");
        // y HOLDS nothing and has 0 each way; z HOLDS g, so he argues if y does.
        StrawMen y = Check.told(LAST);
        int[] fourth = {0, 10, 11, -2};
        int[] fifth = {0, 1, 11, -2};
        for (int k = 0; k < 4; k++) {
            Check.due("rest(3, 4, " + k + ")", y.rest(3, 4, k), fourth[k]);
            Check.due("rest(4, 3, " + k + ")", y.rest(4, 3, k), fifth[k]);
        }
        Doc.says("Promise 28", "How many RESTS SPAR has;");
        Check.due("rests(3, 4)", y.rests(3, 4), 3);
        Check.due("rests(4, 3)", y.rests(4, 3), 3);
    }

    private static void matches() {
        Doc.says("Promise 27", "MATCH, what 0 .. 4: the STRAW of that MEMBER (-2: none, there are not so many), 5: how many have one.");
        StrawMen x = Check.told(LAST);
        int[] alone = {-2, -2, -2, -2, 4, 1};
        for (int what = 0; what < 6; what++) {
            Check.due("z and t, match(" + what + ")", x.match(what), alone[what]);
        }
        // v WINS with t alone, and z, who HOLDS h now, with s alone.
        x.take(0, 6);
        x.drop(4, 6);
        x.take(4, 7);
        int[] both = {4, -2, -2, -2, 3, 2};
        for (int what = 0; what < 6; what++) {
            Check.due("v and t, z and s, match(" + what + ")", x.match(what), both[what]);
        }
        // w WINS with s, too: one of both has it, the first.
        x.take(1, 7);
        int[] three = {4, 3, -2, -2, -2, 2};
        for (int what = 0; what < 6; what++) {
            Check.due("v and t, w and s, match(" + what + ")", x.match(what), three[what]);
        }
    }

    private static void seen() {
        Doc.says("Promise 31", "SEEN: its number;");
        StrawMen x = Check.told(LAST + "debate z t 0;debate z s 1;");
        Check.due("the fifth has WON", x.see(1, 4, 1, true), 0);
        Doc.says("Promise 34", "HELD (bits);");
        Check.due("g, by which he WINS with the fifth", x.held(4), 64);
        Check.due("of the first, whatever he held", x.held(0), 255);
        Check.due("of the fourth, whatever he held", x.held(3), 255);
        Doc.says("Promise 35", "ASK, what 0: the WEIGHT, 1: how many are left at worst (0 and 0, if there are none).");
        Check.due("one alone", x.ask(4, 1), 1);
        Check.due("of all eight, as the fourth has shown nothing", x.ask(3, 0), 41);
        Check.due("of all eight, left", x.ask(3, 1), 4);
        Doc.says("Promise 34", "HELD (bits);");
        x.strike(0);
        x.see(1, 4, 1, false);
        x.see(2, 4, 1, true);
        Check.due("the eighth, by which he WINS with s", x.held(4), 128);
        // The 24th alone tells something: that the fifth hasn't WON.
        Doc.says("Terms 3", "SEEN, at most 24, numbered from 0 on: behind so many NIGHTS 1 .. 60 (as it goes from the TEXT on, nothing done by"
            + " call) a MEMBER had WON so often 0 .. 12 at least, or less.");
        StrawMen many = Check.told(LAST + "debate z t 0;debate z t 59;");
        for (int i = 0; i < 23; i++) {
            many.see(1, 4, 0, true);
        }
        Check.due("by 23 that tell nothing", many.held(4), 255);
        Check.due("the 24th", many.see(60, 4, 2, true), 23);
        Check.due("by the 24th, behind 60 NIGHTS", many.held(4), 64);
        many.known(23);
        Check.due("KNOWN by 23", many.held(4), 255);
        many.known(24);
        Check.due("KNOWN by 24", many.held(4), 64);
        StrawMen struck = Check.told(LAST + "debate z t 0;");
        for (int i = 0; i < 23; i++) {
            struck.see(1, 4, i == 22 ? 1 : 0, true);
        }
        Check.due("by the 23rd", struck.held(4), 64);
        struck.strike(22);
        Check.due("the 24th is a STRIKE of it", struck.held(4), 255);
    }

    private static void chances() {
        Doc.says("Promise 36", "In how many of ten times drawn (numbers from a seed 0 .. 2147483647 on, one behind another; n 1 .. 99 NIGHTS"
            + " from now) a STRAW is in the SHED then;");
        StrawMen x = Check.told(LAST + "damp 100;");
        Check.due("the fifth behind 49 NIGHTS", x.chance(1, 49, 4), 0);
        Check.due("the fifth behind 50 NIGHTS", x.chance(1, 50, 4), 10);
        x.debate(4, 4);
        Check.due("the fifth, worn, behind 39 NIGHTS", x.chance(1, 39, 4), 0);
        Check.due("the fifth, worn, behind 40 NIGHTS", x.chance(1, 40, 4), 10);
        Check.due("the fourth behind 40 NIGHTS", x.chance(1, 40, 3), 0);
    }

    private static void tried() {
        Doc.says("Terms 3", "2 MEMBER i doesn't debate (his DEBATES aren't PUT OFF), 3 all STRAW is FULL 99 and in the BARN now,");
        StrawMen x = Check.told(LAST + "debate z t 0;");
        Check.due("as it goes", x.ahead(1, 0, 0), 1);
        Check.due("the fifth doesn't debate", x.tried(2, 4, 1), 0);
        Check.due("the fourth doesn't", x.tried(2, 3, 1), 1);
        Check.due("the fifth is FULL 99, too, and LEANS by 79", x.tried(3, 0, 1), 0);
        StrawMen shed = Check.told(LAST + "law wear 50;law lean 0;debate z t 0;debate z t 1;");
        shed.go(1);
        Check.due("the fifth is in the SHED", shed.ahead(1, 0, 0), 0);
        Check.due("the fifth is in the BARN now", shed.tried(3, 0, 1), 1);
        // FULL 99 and WEIGHT 99 LEAN by 98: one by 98 is BEATEN, one by 99 WINS, for whom 100 would LEAN too much.
        String heavy = "claim a 98 0;claim b 99 0;claim c 99 0;contra a b;contra c b;straw s b 1;member x;debate x s 0;";
        Check.due("FULL 99, not less", Check.told(heavy + "holds x a;").tried(3, 0, 1), 0);
        Check.due("FULL 99, not more", Check.told(heavy + "holds x c;").tried(3, 0, 1), 1);
        Check.due("FULL 99, as a law has it", Check.told(heavy + "holds x a;law lean 99 * (full <> 99);").tried(3, 0, 1), 1);
    }

    private static void undone() {
        Doc.says("Promise 38", "The latest is undone: how many are left;");
        StrawMen x = Check.told(LAST);
        x.debate(4, 4);
        x.debate(4, 0);
        x.take(4, 7);
        x.drop(4, 6);
        int[][] then = {{192, 1, 1, 40}, {64, 1, 1, 40}, {64, 1, 0, 40}, {64, 0, 0, 50}};
        for (int i = 0; i < 4; i++) {
            Check.due("undo() of the fifth's", x.undo(), 3 - i);
            for (int what = 0; what < 3; what++) {
                Check.due("member(4, " + what + ") with " + (3 - i) + " left", x.member(4, what), then[i][what]);
            }
            Check.due("straw(4, 1) with " + (3 - i) + " left", x.straw(4, 1), then[i][3]);
        }
    }

    private static void images() {
        Doc.says("Promise 40", "All (but what was SEEN) is as in the IMAGE (nothing to undo then): which NIGHT it is;");
        StrawMen x = Check.told(LAST + "law wear 20;debate z t 0;debate z t 0;debate z t 1;debate z p 1;stuff t 2;");
        x.debate(4, 4);
        x.debate(4, 0);
        x.take(4, 7);
        x.keep();
        for (int time = 0; time < 2; time++) {
            x.go(2);
            x.drop(4, 7);
            Check.due("the fifth is in the SHED", x.straw(4, 2), 1);
            Check.due("the fifth has WON twice more", x.member(4, 1), 3);
            Check.due("PUT OFF", x.count(10), 1);
            Check.due("back()", x.back(), 0);
            Check.due("the fifth is in the BARN", x.straw(4, 2), 0);
            Check.due("FULL of the fifth", x.straw(4, 1), 30);
            Check.due("HELD by the fifth", x.member(4, 0), 192);
            Check.due("WON by the fifth", x.member(4, 1), 1);
            Check.due("the fifth was BEATEN", x.member(4, 2), 1);
        }
    }
}
