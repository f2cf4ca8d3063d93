/** Sentences on members, two by two and with straw: the third part of 'Terms', promises 25 to 30. */
final class MemberSentences {
    private static final String THREE = "claim a 1 1;claim b 1 1;claim c 1 1;";

    private MemberSentences() {
    }

    static void all() {
        points();
        noPoints();
        agreed();
        noAgreed();
        matched();
        match();
        noMatch();
        spar();
        restsNeither();
        rests();
        noRests();
        theKth();
        noSoMany();
        noRest();
        dry();
        noDry();
    }

    private static void points() {
        Doc.says("Terms 3", "POINTS of two MEMBERS: how many contra there are of a CLAIM one HOLDS and a CLAIM the other one HOLDS, either way"
            + " (each contra once).");
        StrawMen x = Check.told(THREE + "contra a b;contra b a;contra c a;contra b c;member x;member y;member z;holds x a;holds y b;");
        Check.due("a and b, either way", x.points(0, 1), 2);
        Check.due("a and b, asked the other way", x.points(1, 0), 2);
        Check.due("who HOLDS nothing", x.points(0, 2), 0);
        x.take(1, 2);
        Check.due("c AGAINST a, too", x.points(0, 1), 3);
        x.take(0, 2);
        Check.due("b AGAINST c, too, c AGAINST a once", x.points(0, 1), 4);
        x.take(0, 1);
        x.take(1, 0);
        Check.due("both HOLD all: each contra once", x.points(0, 1), 4);
        StrawMen own = Check.told(THREE + "contra a b;member x;member y;holds x a;holds x b;");
        Check.due("both HELD by one alone", own.points(0, 1), 0);
        StrawMen same = Check.told(THREE + "contra a b;member x;member y;holds x a;holds y a;");
        Check.due("both HOLD a alone", same.points(0, 1), 0);
        Doc.says("Promise 25", "POINTS;");
        StrawMen five = Check.told(Check.FIVE_CLAIMS);
        Check.due("points(0, 1) of five", five.points(0, 1), 1);
        five.drop(0, 2);
        Check.due("points(0, 1) now", five.points(0, 1), 0);
    }

    private static final int[][] NO_TWO = {{0, 0}, {1, 1}, {0, 2}, {2, 0}, {1, 2}, {0, -1}, {-1, 0}, {-1, -1}, {2, 3}, {0, 32},
        {32, 1}, {0, Integer.MAX_VALUE}, {Integer.MIN_VALUE, 0}};

    private static void noPoints() {
        Doc.says("Promise 25", "NONE: no such MEMBERS, alike.");
        StrawMen x = Check.told(Check.FIVE_CLAIMS);
        for (int[] two : NO_TWO) {
            Check.due("points(" + two[0] + ", " + two[1] + ")", x.points(two[0], two[1]), Check.NONE);
        }
        Check.due("points(0, 1) of a new one", new StrawMen().points(0, 1), Check.NONE);
    }

    private static void agreed() {
        Doc.says("Terms 3", "AGREED: CLAIMS (bits) both HOLD.");
        StrawMen x = Check.told(THREE + "member x;member y;holds x a;holds x b;holds y b;holds y c;");
        Check.due("b", x.agreed(0, 1), 2);
        x.take(0, 2);
        Check.due("b and c", x.agreed(1, 0), 6);
        Doc.says("Promise 26", "AGREED (bits);");
        x.drop(1, 1);
        Check.due("c", x.agreed(0, 1), 4);
        x.drop(1, 2);
        Check.due("nothing", x.agreed(0, 1), 0);
    }

    private static void noAgreed() {
        Doc.says("Promise 26", "NONE: no such MEMBERS, alike.");
        StrawMen x = Check.told(Check.FIVE_CLAIMS);
        for (int[] two : NO_TWO) {
            Check.due("agreed(" + two[0] + ", " + two[1] + ")", x.agreed(two[0], two[1]), Check.NONE);
        }
        Check.due("agreed(0, 1) of a new one", new StrawMen().agreed(0, 1), Check.NONE);
    }

    /** Five straw, each of a claim of its own (p to t) that leans by 8; the members win with those named. */
    private static StrawMen matching(String... wins) {
        StringBuilder text = new StringBuilder("claim p 9 0;claim q 9 0;claim r 9 0;claim s 9 0;claim t 9 0;claim x 50 0;claim y 50 0;"
            + "claim z 50 0;straw p p 99;straw q q 99;straw r r 99;straw s s 99;straw t t 99;"
            + "contra x p;contra x q;contra y q;contra y r;contra z s;contra z t;contra z p;");
        for (int i = 0; i < wins.length; i++) {
            text.append("member ").append((char) ('a' + i)).append(';');
            for (char claim : wins[i].toCharArray()) {
                text.append("holds ").append((char) ('a' + i)).append(' ').append(claim).append(';');
            }
        }
        return Check.told(text.toString());
    }

    private static void due(String what, StrawMen x, int... straws) {
        int pairs = 0;
        for (int i = 0; i < straws.length; i++) {
            Check.due(what + ", match(" + i + ")", x.match(i), straws[i]);
            pairs += straws[i] >= 0 ? 1 : 0;
        }
        Check.due(what + ", match(5)", x.match(5), pairs);
    }

    private static void matched() {
        Doc.says("Terms 3", "MATCH: for each MEMBER one STRAW in the BARN, or none, none for two, with which he would WIN now (each by itself),"
            + " so that as many as may be have one, of several the first by MEMBERS (STRAW by numbers, none is last).");
        // x wins with p, q; y with q, r; z with p, s, t.
        due("each the first", matching("x", "y", "z"), 0, 1, 3, -2, -2);
        due("three for two", matching("x", "x", "x"), 0, 1, -2, -2, -2);
        due("the first one has one, the last none", matching("x", "", "x", "x"), 0, -2, 1, -2, -2);
        due("one between them wins with none", matching("x", "", "y"), 0, -2, 1, -2, -2);
        due("all five", matching("xy", "y", "z", "z", "z"), 1, 2, 0, 3, 4);
        due("the first gives way", matching("xyz", "x", "x", "y", "z"), 3, 0, 1, 2, 4);
        due("none HOLDS a thing", matching("", "", "", "", ""), -2, -2, -2, -2, -2);
        due("by numbers, each as low as may be", matching("xyz", "xyz", "xyz", "xyz", "xyz"), 0, 1, 2, 3, 4);
        due("one MEMBER alone", matching("z"), 0, -2, -2, -2, -2);
        StrawMen shed = Check.told("claim a 50 0;claim b 9 0;contra a b;straw s b 1;straw t b 50;member x;holds x a;damp 100;");
        due("in the BARN", shed, 0, -2, -2, -2, -2);
        shed.go(1);
        due("the first is in the SHED", shed, 1, -2, -2, -2, -2);
        StrawMen empty = Check.told("claim a 50 0;claim b 9 0;contra a b;straw s b 9;member x;member y;holds x a;holds y a;");
        empty.debate(0, 0);
        due("FULL 0, but in the BARN yet", empty, 0, -2, -2, -2, -2);
        StrawMen alone = Check.told("claim a 30 0;claim b 60 0;contra a b;straw s b 55;straw t b 50;member x;member y;holds x a;holds y a;");
        due("each by itself: nothing is worn by it", alone, -2, -2, -2, -2, -2);
        StrawMen now = matching("x", "y");
        now.take(1, 7);
        now.drop(1, 6);
        due("now, with z in place of y", now, 0, 3, -2, -2, -2);
    }

    private static void match() {
        Doc.says("Promise 27", "MATCH, what 0 .. 4: the STRAW of that MEMBER (-2: none, there are not so many), 5: how many have one.");
        StrawMen x = Check.told("claim a 50 0;claim b 50 0;claim c 40 0;claim d 99 0;contra a b;contra a c;contra d b;"
            + "straw s b 20;straw t c 20;member x;member y;member z;holds x a;holds y d;");
        due("x gives way to y, z has none", x, 1, 0, -2, -2, -2);
        due("of a new one", new StrawMen(), -2, -2, -2, -2, -2);
        Check.due("nothing is done", x.count(7) + x.count(8), 0);
    }

    private static void noMatch() {
        Doc.says("Promise 27", "NONE for another what.");
        StrawMen x = Check.told(Check.FIVE_CLAIMS);
        for (int what : Check.notOf(6)) {
            Check.due("match(" + what + ")", x.match(what), Check.NONE);
            Check.due("match(" + what + ") of a new one", new StrawMen().match(what), Check.NONE);
        }
    }

    private static void restsAre(String text, int... due) {
        StrawMen x = Check.told(text);
        Check.due("rests of " + text, x.rests(0, 1), due.length);
        for (int k = 0; k < due.length; k++) {
            Check.due("rest " + k + " of " + text, x.rest(0, 1, k), due[k]);
        }
        Check.due("no more of " + text, x.rest(0, 1, due.length), -2);
    }

    private static void spar() {
        Doc.says("Terms 3", "SPAR of two MEMBERS: each argues (0) or agrees (1): both argue: each has its CLAIMS HELD less POINTS; one argues"
            + " alone: it has POINTS, the other one how many are AGREED; both agree: each has how many are AGREED, twice.");
        String two = THREE + "member x;member y;";
        // A point each way: both arguing is worth 1 - 2 each, arguing alone 2, agreeing alone 0, both agreeing 0.
        restsAre(two + "contra a b;contra b a;holds x a;holds y b;", 1, 10);
        // AGREED 1, no POINTS: both arguing 1 each, arguing alone 0, agreeing alone 1, both agreeing 2.
        restsAre(two + "holds x a;holds y a;", 0, 11);
        // x HOLDS 3, y 1 of them, 2 POINTS: both arguing x 1, y -1; arguing alone 2, agreeing alone 1; both agreeing 2.
        restsAre(two + "contra b a;contra c a;holds x a;holds x b;holds x c;holds y a;", 1, 10, 11);
        // y HOLDS nothing, x 3: both arguing is worth 3 to x, all else 0 to both.
        restsAre(two + "holds x a;holds x b;holds x c;", 0, 1, 11);
        // The same the other way round.
        restsAre(two + "holds y a;holds y b;holds y c;", 0, 10, 11);
    }

    private static void restsNeither() {
        Doc.says("Terms 3", "A REST: neither would have more otherwise.");
        // Nobody has anything: as much otherwise isn't more, so all four are RESTS.
        restsAre(THREE + "member x;member y;", 0, 1, 10, 11);
        // HELD 1 each, a POINT: both arguing 0, agreeing alone 0, arguing alone 1, both agreeing 0.
        restsAre(THREE + "member x;member y;contra a b;holds x a;holds y b;", 0, 1, 10);
        Doc.says("Terms 3", "RESTS: by the first one's, then the second one's.");
        restsAre(THREE + "member x;member y;", 0, 1, 10, 11);
        StrawMen x = Check.told(THREE + "member x;member y;holds x a;");
        Check.due("x first: y argues or not", x.rest(0, 1, 1), 1);
        Check.due("y first: y argues or not", x.rest(1, 0, 1), 10);
    }

    private static void rests() {
        Doc.says("Promise 28", "How many RESTS SPAR has;");
        StrawMen x = Check.told(THREE + "member x;member y;");
        Check.due("four", x.rests(0, 1), 4);
        x.take(0, 0);
        Check.due("three now", x.rests(0, 1), 3);
        x.take(1, 0);
        Check.due("two now", x.rests(0, 1), 2);
        Check.due("two, the other way round", x.rests(1, 0), 2);
    }

    private static void noRests() {
        Doc.says("Promise 28", "NONE: no such MEMBERS, alike.");
        StrawMen x = Check.told(Check.FIVE_CLAIMS);
        for (int[] two : NO_TWO) {
            Check.due("rests(" + two[0] + ", " + two[1] + ")", x.rests(two[0], two[1]), Check.NONE);
        }
        Check.due("rests(0, 1) of a new one", new StrawMen().rests(0, 1), Check.NONE);
    }

    private static void theKth() {
        Doc.says("Promise 29", "The k-th: ten times the first one's and the second one's;");
        StrawMen x = Check.told(THREE + "member x;member y;");
        int[] due = {0, 1, 10, 11};
        for (int k = 0; k < 4; k++) {
            Check.due("rest(0, 1, " + k + ")", x.rest(0, 1, k), due[k]);
        }
    }

    private static void noSoMany() {
        Doc.says("Promise 29", "-2: there are no so many;");
        StrawMen x = Check.told(THREE + "member x;member y;holds x a;holds y a;");
        for (int k : new int[] {2, 3, 4, 5, 32, Integer.MAX_VALUE}) {
            Check.due("rest(0, 1, " + k + ")", x.rest(0, 1, k), -2);
        }
        Check.due("rest(0, 1, 1)", x.rest(0, 1, 1), 11);
        Check.due("a fifth of four", Check.told(THREE + "member x;member y;").rest(0, 1, 4), -2);
    }

    private static void noRest() {
        Doc.says("Promise 29", "NONE likewise, k is below 0.");
        StrawMen x = Check.told(Check.FIVE_CLAIMS);
        for (int[] two : NO_TWO) {
            for (int k : new int[] {0, 9, -1}) {
                Check.due("rest(" + two[0] + ", " + two[1] + ", " + k + ")", x.rest(two[0], two[1], k), Check.NONE);
            }
        }
        for (int k : new int[] {-1, -2, Integer.MIN_VALUE}) {
            Check.due("rest(0, 1, " + k + ")", x.rest(0, 1, k), Check.NONE);
        }
        Check.due("rest(0, 1, 0) of a new one", new StrawMen().rest(0, 1, 0), Check.NONE);
    }

    private static void dry() {
        Doc.says("Terms 3", "DRY for n NIGHTS: how likely it isn't damp for one STRAW in them, as a fraction.");
        StrawMen x = Check.told("damp 30;");
        long[] above = {1, 7, 49, 343, 2401, 16807, 117649};
        long[] below = {1, 10, 100, 1000, 10000, 100000, 1000000};
        for (int n = 0; n <= 6; n++) {
            Check.due("7 of 10, the number above, n " + n, x.dry(n, 0), above[n]);
            Check.due("7 of 10, the one below, n " + n, x.dry(n, 1), below[n]);
        }
        Doc.says("Promise 30", "DRY (n 0 .. 6) in least terms, what 0: the number above, 1: the one below.");
        int[] damp = {0, 1, 2, 4, 25, 50, 52, 80, 99, 100};
        long[] up = {1, 99, 49, 24, 3, 1, 12, 1, 1, 0};
        long[] down = {1, 100, 50, 25, 4, 2, 25, 5, 100, 1};
        for (int i = 0; i < damp.length; i++) {
            StrawMen of = Check.told("damp " + damp[i] + ";");
            long product = 1;
            long whole = 1;
            for (int n = 0; n <= 6; n++) {
                Check.due("above by damp " + damp[i] + ", n " + n, of.dry(n, 0), product);
                Check.due("below by damp " + damp[i] + ", n " + n, of.dry(n, 1), whole);
                product *= up[i];
                whole *= down[i];
            }
        }
        Check.due("the most there is", Check.told("damp 1;").dry(6, 1), 1000000000000L);
        Check.due("without damp", new StrawMen().dry(6, 0), 1);
        x.go(200);
        Check.due("whatever the NIGHT", x.dry(1, 0), 7);
    }

    private static void noDry() {
        Doc.says("Promise 30", "NONE: no such ones.");
        StrawMen x = Check.told("damp 30;");
        for (int n : Check.notOf(7)) {
            Check.due("dry(" + n + ", 0)", x.dry(n, 0), Check.NONE);
            Check.due("dry(" + n + ", 1)", x.dry(n, 1), Check.NONE);
        }
        for (int what : Check.notOf(2)) {
            Check.due("dry(1, " + what + ")", x.dry(1, what), Check.NONE);
        }
    }
}
