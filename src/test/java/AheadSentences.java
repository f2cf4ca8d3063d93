/** Sentences on what comes and what is tried: AHEAD, SHEDS and TRIED of 'Terms', promises 15, 16, 36 and 37. */
final class AheadSentences {
    private static final String ONE = TextSentences.ONE;

    private AheadSentences() {
    }

    static void all() {
        whatComes();
        ahead();
        noAhead();
        sheds();
        shedsOfStraw();
        notByThen();
        noSheds();
        drawn();
        notDrawn();
        tried();
        triedLeavesNothing();
        triedForNights();
        notTried();
    }

    private static void whatComes() {
        Doc.says("Terms 3", "AHEAD for n NIGHTS as it goes: WON more by all, BEATEN more, FULL of a STRAW then, how many are in the SHED"
            + " then, PUT OFF more.");
        // NIGHT 0: x wins with s; 1: x wins with t, which goes to the SHED; 2: y's is PUT OFF; 3: x wins; 5: t is stuffed.
        StrawMen x = Check.told(Check.FIVE_CLAIMS + "debate y s 4;debate y t 6;");
        int[] won = {0, 1, 2, 2, 3, 3, 3, 3};
        int[] beaten = {0, 0, 0, 0, 0, 1, 1, 2};
        int[] fullOfS = {50, 40, 40, 40, 30, 30, 30, 30};
        int[] fullOfT = {4, 4, 0, 0, 0, 0, 99, 99};
        int[] shed = {0, 0, 1, 1, 1, 1, 0, 0};
        int[] putOff = {0, 0, 0, 1, 1, 1, 1, 1};
        for (int night = 0; night < 8; night++) {
            for (int n = 0; night + n < 8; n++) {
                String when = " for " + n + " from NIGHT " + night;
                Check.due("WON more" + when, x.ahead(n, 0, 0), won[night + n] - won[night]);
                Check.due("BEATEN more" + when, x.ahead(n, 1, 0), beaten[night + n] - beaten[night]);
                Check.due("FULL of s" + when, x.ahead(n, 2, 0), fullOfS[night + n]);
                Check.due("FULL of t" + when, x.ahead(n, 2, 1), fullOfT[night + n]);
                Check.due("in the SHED" + when, x.ahead(n, 3, 0), shed[night + n]);
                Check.due("PUT OFF more" + when, x.ahead(n, 4, 0), putOff[night + n] - putOff[night]);
            }
            Check.due("NIGHT", x.count(6), night);
            x.go(1);
        }
        Check.due("as done by call, too", called().ahead(1, 0, 0), 1);
    }

    // By call y took what beats s, so the debate that he would lose by the text is won.
    private static StrawMen called() {
        StrawMen x = Check.told(ONE + "debate y s 0;");
        x.take(1, 0);
        return x;
    }

    private static void ahead() {
        Doc.says("Promise 15", "AHEAD (n 0 .. 200), what 0 WON, 1 BEATEN, 2 FULL, 3 in the SHED, 4 PUT OFF (of all but 2 the STRAW isn't"
            + " looked at).");
        StrawMen x = Check.told(ONE + "debate x s 0;debate y s 99;damp 50;law wear 1;stuff s 99;");
        Check.due("ahead(0, 2, 0)", x.ahead(0, 2, 0), 50);
        Check.due("ahead(1, 2, 0)", x.ahead(1, 2, 0), 48);
        Check.due("ahead(99, 1, 0)", x.ahead(99, 1, 0), 0);
        Check.due("ahead(100, 1, 0)", x.ahead(100, 1, 0), 1);
        Check.due("ahead(197, 2, 0)", x.ahead(197, 2, 0), 1);
        Check.due("ahead(197, 3, 0)", x.ahead(197, 3, 0), 0);
        Check.due("ahead(198, 3, 0)", x.ahead(198, 3, 0), 1);
        Check.due("ahead(200, 3, 0)", x.ahead(200, 3, 0), 1);
        Check.due("ahead(200, 0, 0)", x.ahead(200, 0, 0), 1);
        for (int straw : Check.notOf(1)) {
            for (int what : new int[] {0, 1, 3, 4}) {
                Check.due("ahead(1, " + what + ", " + straw + ")", x.ahead(1, what, straw), what == 0 ? 1 : 0);
            }
        }
        StrawMen last = new StrawMen();
        Check.tell(last, ONE + "damp 50;");
        for (int i = 0; i < 45; i++) {
            last.go(200);
        }
        Check.due("on NIGHT 9000", last.ahead(200, 3, 0), 1);
        Check.due("of a new one", new StrawMen().ahead(200, 0, 0), 0);
    }

    private static void noAhead() {
        Doc.says("Promise 15", "NONE: no such ones.");
        StrawMen x = Check.told(Check.FIVE_CLAIMS);
        for (int n : new int[] {-1, -200, 201, 202, Integer.MAX_VALUE, Integer.MIN_VALUE}) {
            for (int what = 0; what < 5; what++) {
                Check.due("ahead(" + n + ", " + what + ", 0)", x.ahead(n, what, 0), Check.NONE);
            }
        }
        for (int what : Check.notOf(5)) {
            Check.due("ahead(1, " + what + ", 0)", x.ahead(1, what, 0), Check.NONE);
        }
        for (int straw : Check.notOf(2)) {
            Check.due("ahead(1, 2, " + straw + ")", x.ahead(1, 2, straw), Check.NONE);
        }
        Check.due("ahead(0, 2, 0) of a new one", new StrawMen().ahead(0, 2, 0), Check.NONE);
    }

    private static void sheds() {
        Doc.says("Terms 3", "SHEDS of a STRAW: in how many NIGHTS as it goes, 199 at most, it is in the SHED (0: it is).");
        String wet = "claim a 1 1;straw s a 1;straw t a 99;damp 50;";
        StrawMen x = Check.told(wet + "stuff s 1;");
        Check.due("FULL 1", x.sheds(0), 1);
        Check.due("FULL 99", x.sheds(1), 99);
        Check.due("stuffed on the last NIGHT, the most there can be", Check.told(wet + "stuff t 98;stuff t 99;").sheds(1), 198);
        Check.due("of one that goes to the SHED, is stuffed, goes again: the first time", Check.told(wet + "stuff s 1;").sheds(0), 1);
        StrawMen went = Check.told("claim a 1 1;straw s a 1;straw t a 99;damp 100;stuff s 5;");
        went.go(1);
        Check.due("it is in the SHED, though it is stuffed later on", went.sheds(0), 0);
        Check.due("from NIGHT 1 on", went.sheds(1), 98);
        went.go(5);
        Check.due("stuffed on NIGHT 5, on NIGHT 6", went.sheds(0), 98);
        StrawMen worn = Check.told(ONE + "debate x s 7;law wear 50;");
        Check.due("by wear, on NIGHT 7", worn.sheds(0), 8);
        worn.debate(0, 0);
        Check.due("FULL 0 by call, not yet in the SHED", worn.sheds(0), 1);
    }

    private static void shedsOfStraw() {
        Doc.says("Promise 16", "SHEDS;");
        StrawMen x = Check.told(Check.FIVE_CLAIMS);
        Check.due("sheds(1)", x.sheds(1), 2);
        x.go(1);
        Check.due("sheds(1) on NIGHT 1", x.sheds(1), 1);
        x.go(1);
        Check.due("sheds(1) on NIGHT 2", x.sheds(1), 0);
        Check.due("nothing is done", x.count(6), 2);
    }

    private static void notByThen() {
        Doc.says("Promise 16", "-2: not by then;");
        Check.due("never damp", Check.told("claim a 1 1;straw s a 1;damp 49;").sheds(0), -2);
        Check.due("no DEBATE", Check.told(ONE).sheds(0), -2);
        StrawMen x = Check.told(Check.FIVE_CLAIMS);
        Check.due("not worn out", x.sheds(0), -2);
        x.go(6);
        Check.due("stuffed, and never worn again", x.sheds(1), -2);
    }

    private static void noSheds() {
        Doc.says("Promise 16", "NONE: no such STRAW.");
        StrawMen x = Check.told(Check.FIVE_CLAIMS);
        for (int straw : Check.notOf(2)) {
            Check.due("sheds(" + straw + ")", x.sheds(straw), Check.NONE);
        }
        Check.due("sheds(0) of a new one", new StrawMen().sheds(0), Check.NONE);
    }

    /** The same by the long way: ten times one behind another, the numbers going on. */
    private static int drawnByHand(int[] fulls, int damp, long seed, int nights, int straw) {
        long last = seed;
        int sheds = 0;
        for (int time = 0; time < 10; time++) {
            int[] full = fulls.clone();
            for (int night = 0; night < nights; night++) {
                for (int i = 0; i < full.length; i++) {
                    if (full[i] > 0) {
                        last = (last * 1103515245L + 12345L) % (1L << 31);
                        full[i] -= last / 65536 % 100 < damp ? 1 : 0;
                    }
                }
            }
            sheds += full[straw] == 0 ? 1 : 0;
        }
        return sheds;
    }

    private static void drawn() {
        Doc.says("Promise 36", "In how many of ten times drawn (numbers from a seed 0 .. 2147483647 on, one behind another; n 1 .. 99 NIGHTS"
            + " from now) a STRAW is in the SHED then;");
        StrawMen x = Check.told("claim a 1 1;straw s a 3;straw t a 50;straw u a 1;damp 40;seed 5;");
        x.go(2);
        for (int seed : new int[] {0, 1, 77, 65536, 2147483646, 2147483647}) {
            for (int n : new int[] {1, 2, 6, 50, 99}) {
                x.ahead(n, 0, 0);
                for (int straw = 0; straw < 3; straw++) {
                    int[] full = {x.straw(0, 1), x.straw(1, 1), x.straw(2, 1)};
                    Check.due("chance(" + seed + ", " + n + ", " + straw + ")", x.chance(seed, n, straw),
                        drawnByHand(full, 40, seed, n, straw));
                }
            }
        }
        StrawMen wet = Check.told("claim a 1 1;straw s a 99;damp 100;");
        Check.due("damp 100, 98 NIGHTS", wet.chance(0, 98, 0), 0);
        Check.due("damp 100, 99 NIGHTS", wet.chance(0, 99, 0), 10);
        Check.due("FULL stays", wet.straw(0, 1), 99);
        Check.due("the NIGHT stays", wet.count(6), 0);
        Check.due("no damp", Check.told("claim a 1 1;straw s a 1;").chance(0, 99, 0), 0);
        StrawMen worn = Check.told(ONE + "law wear 50;debate x s 1;stuff s 3;");
        Check.due("by DEBATES, 1 NIGHT", worn.chance(0, 1, 0), 0);
        Check.due("by DEBATES, 2 NIGHTS", worn.chance(0, 2, 0), 10);
        Check.due("in the SHED then, not on the way", worn.chance(0, 4, 0), 0);
        worn.go(1);
        Check.due("from now", worn.chance(0, 1, 0), 10);
        StrawMen asked = Check.told("claim a 1 1;straw s a 99;damp 50;seed 3;");
        StrawMen twin = Check.told("claim a 1 1;straw s a 99;damp 50;seed 3;");
        for (int night = 1; night <= 20; night++) {
            asked.chance(night, 9, 0);
            asked.go(1);
            twin.go(1);
            Check.due("its own numbers go on as they were, NIGHT " + night, asked.straw(0, 1), twin.straw(0, 1));
        }
    }

    private static void notDrawn() {
        Doc.says("Promise 36", "NONE: no such ones.");
        StrawMen x = Check.told("claim a 1 1;straw s a 1;straw t a 1;damp 100;");
        for (int seed : new int[] {-1, -2, Integer.MIN_VALUE}) {
            Check.due("chance(" + seed + ", 1, 0)", x.chance(seed, 1, 0), Check.NONE);
        }
        for (int n : new int[] {0, -1, 100, 101, 200, Integer.MAX_VALUE, Integer.MIN_VALUE}) {
            Check.due("chance(1, " + n + ", 0)", x.chance(1, n, 0), Check.NONE);
        }
        for (int straw : Check.notOf(2)) {
            Check.due("chance(1, 1, " + straw + ")", x.chance(1, 1, straw), Check.NONE);
        }
        Check.due("chance(0, 1, 0) of a new one", new StrawMen().chance(0, 1, 0), Check.NONE);
        Check.due("chance(0, 1, 1)", x.chance(0, 1, 1), 10);
    }

    private static void tried() {
        Doc.says("Terms 3", "TRIED for n NIGHTS as it goes: WON more by all: 0 no damp, 1 nothing wears by DEBATES (E of wear isn't asked),"
            + " 2 MEMBER i doesn't debate (his DEBATES aren't PUT OFF), 3 all STRAW is FULL 99 and in the BARN now, 4 for FORCE contra go"
            + " both ways.");
        // No damp: s (FULL 55, LEAN 33) is too heavy for 31 without damp; with it, four NIGHTS make it 30.
        String damp = "claim a 31 1;claim b 60 2;contra a b;straw s b 55;member x;holds x a;debate x s 4;";
        Check.due("damp 50, as it goes", Check.told(damp + "damp 50;").ahead(5, 0, 0), 1);
        Check.due("damp 50, no damp", Check.told(damp + "damp 50;").tried(0, 0, 5), 0);
        Check.due("damp 100, no damp", Check.told(damp + "damp 100;").tried(0, 0, 5), 0);
        Check.due("damp 50, nothing wears by DEBATES, but by damp", Check.told(damp + "damp 50;").tried(1, 0, 5), 1);
        Check.due("FULL 0 goes to the SHED without damp, too", Check.told(ONE + "law wear 50;debate x s 0;debate x s 1;damp 50;")
            .tried(0, 0, 2), 1);
        // Nothing wears: s would be in the SHED behind NIGHT 1.
        String worn = ONE + "law wear 25;debate x s 0;debate x s 1;debate x s 2;debate x s 3;";
        Check.due("as it goes", Check.told(worn).ahead(4, 0, 0), 2);
        Check.due("nothing wears", Check.told(worn).tried(1, 0, 4), 4);
        Check.due("nothing wears, without a law", Check.told(ONE + "debate x s 0;".repeat(6) + "debate x s 1;").tried(1, 0, 2), 7);
        Check.due("nothing wears, with an ERROR", Check.told(ONE + "debate x s 0;".repeat(6) + "debate x s 1;law wear 1/0;")
            .tried(1, 0, 2), 7);
        // Without y, who wears it, x is BEATEN; without x, y WINS alone.
        String two = "claim a 40 1;claim b 60 2;claim c 99 0;contra a b;contra c b;straw s b 80;member x;member y;holds x a;"
            + "holds y c;law wear 30;debate y s 0;debate x s 1;debate y s 2;";
        Check.due("all debate", Check.told(two).ahead(3, 0, 0), 3);
        Check.due("x doesn't", Check.told(two).tried(2, 0, 3), 2);
        Check.due("y doesn't", Check.told(two).tried(2, 1, 3), 0);
        StrawMen off = Check.told(two);
        off.tried(2, 1, 3);
        Check.due("PUT OFF", off.count(10), 0);
        // All STRAW is FULL 99: x can't beat it any more; what is in the SHED is back.
        Check.due("FULL 99 leans by 59", Check.told(ONE + "debate x s 0;").tried(3, 0, 1), 0);
        StrawMen shed = Check.told("claim a 99 1;claim b 60 2;contra a b;straw s b 50;straw t b 1;member x;holds x a;law wear 99;"
            + "debate x s 0;debate x t 0;debate x s 1;debate x t 2;");
        shed.go(1);
        Check.due("both are in the SHED", shed.ahead(2, 0, 0), 0);
        Check.due("both are in the BARN now", shed.tried(3, 0, 2), 2);
        Check.due("both are in the SHED yet", shed.count(9), 2);
        // Both ways: x HOLDS a, which b is AGAINST.
        String ways = "claim a 40 1;claim b 60 2;contra b a;straw s b 50;member x;holds x a;debate x s 0;";
        Check.due("one way", Check.told(ways).ahead(1, 0, 0), 0);
        Check.due("both ways", Check.told(ways).tried(4, 0, 1), 1);
        Check.due("force of a law, too", Check.told(ways + "law lean force;").tried(4, 0, 1), 0);
        Check.due("one way, FORCE now", Check.told(ways).force(0, 1), 0);
        Check.due("the way it was counts, too", Check.told(ONE + "debate x s 0;").tried(4, 0, 1), 1);
    }

    /** What was tried, and what is asked next goes as ever. */
    private static void triedLeavesNothing() {
        Doc.says("Promise 37", "TRIED (n 0 .. 200);");
        // x wins with s on NIGHT 0 and wears it to 1, damp makes it 0; y wins with t on NIGHT 3. By b alone x wins nothing.
        String text = "claim a 41 1;claim b 60 2;contra a b;contra b a;straw s b 67;straw t a 10;member x;holds x a;member y;holds y b;"
            + "debate x s 0;debate x s 2;debate x s 3;debate y t 3;damp 60;law wear 66;";
        int[] due = {3, 4, 1, 1, 2};
        for (int what = 0; what < 5; what++) {
            StrawMen x = Check.told(text);
            Check.due("tried(" + what + ", 0, 4)", x.tried(what, 0, 4), due[what]);
            Check.due("ahead(4, 0, 0) behind it", x.ahead(4, 0, 0), 2);
            x.tried(what, 0, 4);
            Check.due("sheds(0) behind it", x.sheds(0), 1);
            x.tried(what, 0, 4);
            Check.due("chance behind it", x.chance(1, 4, 0), Check.told(text).chance(1, 4, 0));
            x.see(4, 0, 1, true);
            x.see(1, 0, 1, true);
            x.see(4, 0, 2, false);
            x.tried(what, 0, 4);
            Check.due("held(0) behind it", x.held(0), 1);
            x.tried(what, 0, 4);
            x.go(1);
            Check.due("WON on NIGHT 0 behind it", x.count(7), 1);
        }
        StrawMen ways = Check.told("claim a 40 1;claim b 60 2;contra b a;straw s b 50;member x;holds x a;debate x s 0;");
        Check.due("both ways", ways.tried(4, 0, 1), 1);
        Check.due("one way behind it", ways.ahead(1, 0, 0), 0);
        Check.due("both ways again", ways.tried(4, 0, 1), 1);
        Check.due("another one tried behind it", ways.tried(0, 0, 1), 0);
        ways.tried(4, 0, 1);
        ways.see(1, 0, 1, true);
        Check.due("what he held behind it", ways.held(0), 0);
    }

    private static void triedForNights() {
        Doc.says("Promise 37", "TRIED (n 0 .. 200);");
        StrawMen x = Check.told(ONE + "debate x s 0;debate x s 99;");
        for (int what : new int[] {0, 1, 4}) {
            Check.due("tried(" + what + ", 0, 0)", x.tried(what, 0, 0), 0);
            Check.due("tried(" + what + ", 0, 1)", x.tried(what, 0, 1), 1);
            Check.due("tried(" + what + ", 0, 99)", x.tried(what, 0, 99), 1);
            Check.due("tried(" + what + ", 0, 100)", x.tried(what, 0, 100), 2);
            Check.due("tried(" + what + ", 0, 200)", x.tried(what, 0, 200), 2);
        }
        Check.due("tried(2, 0, 200)", x.tried(2, 0, 200), 0);
        Check.due("tried(2, 1, 200)", x.tried(2, 1, 200), 2);
        Check.due("tried(3, 0, 200)", x.tried(3, 0, 200), 0);
        Check.due("nothing is done", x.count(6) + x.count(7), 0);
        x.go(1);
        Check.due("WON more", x.tried(0, 0, 200), 1);
    }

    private static void notTried() {
        Doc.says("Promise 37", "NONE: no such ones (i 0 of all but 2).");
        StrawMen x = Check.told(Check.FIVE_CLAIMS);
        for (int what = 0; what < 5; what++) {
            for (int n : new int[] {-1, -200, 201, 202, Integer.MAX_VALUE, Integer.MIN_VALUE}) {
                Check.due("tried(" + what + ", 0, " + n + ")", x.tried(what, 0, n), Check.NONE);
            }
            for (int i : new int[] {1, 2, 4, -1, 32, Integer.MAX_VALUE, Integer.MIN_VALUE}) {
                boolean one = what == 2 && i == 1;
                Check.due("tried(" + what + ", " + i + ", 4)", x.tried(what, i, 4), one ? 3 : Check.NONE);
            }
        }
        for (int what : Check.notOf(5)) {
            Check.due("tried(" + what + ", 0, 4)", x.tried(what, 0, 4), Check.NONE);
        }
        Check.due("no MEMBER 0 of a new one", new StrawMen().tried(2, 0, 0), Check.NONE);
        Check.due("the others of a new one", new StrawMen().tried(3, 0, 200), 0);
    }
}
