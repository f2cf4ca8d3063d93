/** Promises 25 to 30: points, what is agreed, members matched with straw, two who argue or agree, how dry it stays. */
public final class MembersTest {
    public static void main(String[] args) {
        pointsAndAgreed();
        matches();
        matchesByTrial();
        rests();
        dry();
        Check.end("MembersTest");
    }

    private static void pointsAndAgreed() {
        StrawMen x = Check.told("claim a 1 1;claim b 1 1;claim c 1 1;contra a b;contra b a;contra c a;contra b c;"
            + "member x;member y;member z;holds x a;holds x c;holds y b;holds y c;");
        // a against b, b against a, c against a (y's against x's), b against c (y's against x's).
        Check.due("points(0, 1)", x.points(0, 1), 4);
        Check.due("points(1, 0)", x.points(1, 0), 4);
        Check.due("points(0, 2)", x.points(0, 2), 0);
        Check.due("agreed(0, 1)", x.agreed(0, 1), 4);
        Check.due("agreed(2, 1)", x.agreed(2, 1), 0);
        x.take(0, 1);
        Check.due("each contra once", x.points(0, 1), 4);
        x.drop(1, 1);
        Check.due("points of c alone", x.points(0, 1), 2);
        int[][] wrong = {{0, 0}, {0, 3}, {3, 0}, {-1, 0}, {0, -1}};
        for (int[] two : wrong) {
            Check.due("points of no two", x.points(two[0], two[1]), Check.NONE);
            Check.due("agreed of no two", x.agreed(two[0], two[1]), Check.NONE);
            Check.due("rests of no two", x.rests(two[0], two[1]), Check.NONE);
            Check.due("rest of no two", x.rest(two[0], two[1], 0), Check.NONE);
        }
    }

    private static void matches() {
        // x wins with s and t, y with s alone, z with none.
        StrawMen x = Check.told("claim a 50 0;claim b 50 0;claim c 40 0;claim d 99 0;contra a b;contra a c;contra d b;"
            + "straw s b 20;straw t c 20;member x;member y;member z;holds x a;holds y d;");
        Check.due("x gives way", x.match(0), 1);
        Check.due("y has s", x.match(1), 0);
        Check.due("z has none", x.match(2), -2);
        Check.due("no fourth member", x.match(3), -2);
        Check.due("no fifth member", x.match(4), -2);
        Check.due("two have one", x.match(5), 2);
        Check.due("match(6)", x.match(6), Check.NONE);
        Check.due("match(-1)", x.match(-1), Check.NONE);
        x.drop(1, 3);
        Check.due("x has the first", x.match(0), 0);
        Check.due("y has none", x.match(1), -2);
        Check.due("one has one", x.match(5), 1);
        x.take(1, 0);
        Check.due("both win with both: x has s", x.match(0), 0);
        Check.due("both win with both: y has t", x.match(1), 1);
        StrawMen one = Check.told("claim a 50 0;claim b 50 0;contra a b;straw s b 1;member x;member y;holds x a;holds y a;"
            + "debate x s 0;");
        Check.due("none for two: x", one.match(0), 0);
        Check.due("none for two: y", one.match(1), -2);
        Check.due("nothing is done", one.straw(0, 1), 1);
        one.go(1);
        Check.due("in the shed", one.match(5), 0);
    }

    /** Against all ways in which straw can be given, in order. */
    private static void matchesByTrial() {
        long number = 7;
        for (int round = 0; round < 40; round++) {
            StringBuilder text = new StringBuilder("claim a 50 0;claim b 9 0;claim c 9 0;claim d 9 0;claim e 9 0;claim f 9 0;"
                + "claim g 50 0;contra a b;contra a c;contra a e;contra g b;contra g d;contra g f;"
                + "straw s b 99;straw t c 99;straw u d 99;straw v e 99;straw w f 99;"
                + "member x;member y;member z;member p;member q;");
            for (String member : "x y z p q".split(" ")) {
                number = (number * 1103515245L + 12345L) % (1L << 31);
                int which = (int) (number / 65536 % 4);
                text.append((which & 1) == 1 ? "holds " + member + " a;" : "");
                text.append((which & 2) == 2 ? "holds " + member + " g;" : "");
            }
            StrawMen x = Check.told(text.toString());
            int[] best = bestOf(x);
            int pairs = 0;
            for (int member = 0; member < 5; member++) {
                Check.due("match " + member + " of round " + round, x.match(member), best[member] == 5 ? -2 : best[member]);
                pairs += best[member] == 5 ? 0 : 1;
            }
            Check.due("pairs of round " + round, x.match(5), pairs);
        }
    }

    private static int[] bestOf(StrawMen x) {
        boolean[][] wins = new boolean[5][6];
        for (int m = 0; m < 5; m++) {
            for (int s = 0; s < 5; s++) {
                wins[m][s] = x.force(m, x.straw(s, 0)) > 9 * 99 / 100;
            }
            wins[m][5] = true;
        }
        int[] best = null;
        int most = -1;
        for (int way = 0; way < 7776; way++) {
            int[] straws = {way / 1296, way / 216 % 6, way / 36 % 6, way / 6 % 6, way % 6};
            int pairs = 0;
            int taken = 0;
            for (int m = 0; m < 5 && pairs >= 0; m++) {
                if (!wins[m][straws[m]] || straws[m] < 5 && (taken >> straws[m] & 1) == 1) {
                    pairs = -100;
                } else if (straws[m] < 5) {
                    taken |= 1 << straws[m];
                    pairs++;
                }
            }
            if (pairs > most) {
                most = pairs;
                best = straws;
            }
        }
        return best;
    }

    private static void spar(String text, int... due) {
        StrawMen x = Check.told(text);
        Check.due("rests of " + text, x.rests(0, 1), due.length);
        for (int k = 0; k < due.length; k++) {
            Check.due("rest " + k + " of " + text, x.rest(0, 1, k), due[k]);
        }
        Check.due("one more rest of " + text, x.rest(0, 1, due.length), -2);
        Check.due("rest -1 of " + text, x.rest(0, 1, -1), Check.NONE);
    }

    private static void rests() {
        String two = "claim a 1 1;claim b 1 1;claim c 1 1;member x;member y;";
        // Nobody holds anything: all is 0.
        spar(two, 0, 1, 10, 11);
        // x holds one alone: arguing against arguing is worth 1 to him.
        spar(two + "holds x a;", 0, 1, 11);
        // Both hold the same one: agreeing is worth 2 each, arguing alone 0, both arguing 1 each.
        spar(two + "holds x a;holds y a;", 0, 11);
        // A point each way: both arguing is 1 - 2, arguing alone 2, agreeing against it 0.
        spar(two + "contra a b;contra b a;holds x a;holds y b;", 1, 10);
        // Two agreed, two points: x has 2 - 2, y has 3 - 2; the one who agrees alone has 2, who argues alone 2; 4 both.
        spar(two + "contra a c;contra c b;holds x a;holds x b;holds y a;holds y b;holds y c;", 11);
    }

    private static void dry() {
        StrawMen x = Check.told("damp 30;");
        Check.due("dry(0, 0)", x.dry(0, 0), 1);
        Check.due("dry(0, 1)", x.dry(0, 1), 1);
        Check.due("dry(1, 0)", x.dry(1, 0), 7);
        Check.due("dry(1, 1)", x.dry(1, 1), 10);
        Check.due("dry(6, 0)", x.dry(6, 0), 117649);
        Check.due("dry(6, 1)", x.dry(6, 1), 1000000);
        Check.due("dry(7, 0)", x.dry(7, 0), Check.NONE);
        Check.due("dry(-1, 0)", x.dry(-1, 0), Check.NONE);
        Check.due("dry(0, 2)", x.dry(0, 2), Check.NONE);
        Check.due("dry(0, -1)", x.dry(0, -1), Check.NONE);
        Check.due("damp 1", Check.told("damp 1;").dry(6, 1), 1000000000000L);
        Check.due("damp 1, above", Check.told("damp 1;").dry(6, 0), 941480149401L);
        Check.due("damp 50", Check.told("damp 50;").dry(5, 1), 32);
        Check.due("damp 100", Check.told("damp 100;").dry(1, 0), 0);
        Check.due("damp 100, below", Check.told("damp 100;").dry(3, 1), 1);
        Check.due("damp 100, no night", Check.told("damp 100;").dry(0, 0), 1);
        Check.due("no damp", new StrawMen().dry(6, 0), 1);
    }
}
