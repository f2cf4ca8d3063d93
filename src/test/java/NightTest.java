import java.util.NoSuchElementException;

/** Promises 6 to 16, 36 and 37: what one asks of claims, straw and members, laws, debates, nights, what comes. */
public final class NightTest {
    private static final String ONE = "claim a 40 1;claim b 60 2;contra a b;straw s b 50;member x;member y;holds x a;";

    public static void main(String[] args) {
        claims();
        strawAndMembers();
        forces();
        values();
        errors();
        lawNames();
        debates();
        lawsInDebates();
        takesAndDrops();
        nights();
        stuffings();
        dampByNumbers();
        farNights();
        aheads();
        shedding();
        chances();
        trials();
        trialsLeaveNothing();
        Check.end("NightTest");
    }

    private static void claims() {
        StrawMen x = Check.told(Check.FIVE_CLAIMS);
        Check.due("claim(1, 0)", x.claim(1, 0), 60);
        Check.due("claim(3, 1)", x.claim(3, 1), 3);
        Check.due("claim(0, 1)", x.claim(0, 1), 1);
        Check.due("claim(1, 2)", x.claim(1, 2), 5);
        Check.due("claim(1, 3)", x.claim(1, 3), 1);
        Check.due("claim(4, 2)", x.claim(4, 2), 0);
        Check.due("claim(5, 0)", thrownBy(x, 5, 0), 1);
        Check.due("claim(-1, 0)", thrownBy(x, -1, 0), 1);
        Check.due("claim(-1, 9)", thrownBy(x, -1, 9), 1);
        Check.due("claim(0, 4)", thrownBy(x, 0, 4), 2);
        Check.due("claim(0, -1)", thrownBy(x, 0, -1), 2);
        Check.due("claim(4, 3)", thrownBy(x, 4, 3), 0);
    }

    private static int thrownBy(StrawMen x, int claim, int what) {
        try {
            x.claim(claim, what);
            return 0;
        } catch (IndexOutOfBoundsException e) {
            return 1;
        } catch (NoSuchElementException e) {
            return 2;
        }
    }

    private static void strawAndMembers() {
        StrawMen x = Check.told(Check.FIVE_CLAIMS);
        Check.due("straw(1, 0)", x.straw(1, 0), 3);
        Check.due("straw(1, 1)", x.straw(1, 1), 4);
        Check.due("straw(1, 2)", x.straw(1, 2), 0);
        Check.due("straw(2, 0)", x.straw(2, 0), Check.NONE);
        Check.due("straw(-1, 0)", x.straw(-1, 0), Check.NONE);
        Check.due("straw(0, 3)", x.straw(0, 3), Check.NONE);
        Check.due("straw(0, -1)", x.straw(0, -1), Check.NONE);
        Check.due("member(0, 0)", x.member(0, 0), 5);
        Check.due("member(2, 0)", x.member(2, 0), Check.NONE);
        Check.due("member(-1, 0)", x.member(-1, 0), Check.NONE);
        Check.due("member(0, 3)", x.member(0, 3), Check.NONE);
        Check.due("member(0, -1)", x.member(0, -1), Check.NONE);
        x.go(2);
        Check.due("straw(1, 1) worn out", x.straw(1, 1), 0);
        Check.due("straw(1, 2) in the shed", x.straw(1, 2), 1);
        Check.due("member(0, 1)", x.member(0, 1), 2);
        Check.due("member(0, 2)", x.member(0, 2), 0);
    }

    private static void forces() {
        StrawMen x = Check.told(Check.FIVE_CLAIMS);
        Check.due("force(0, 1)", x.force(0, 1), 40);
        Check.due("force(0, 0)", x.force(0, 0), 0);
        x.take(1, 2);
        x.take(1, 1);
        Check.due("force(1, 0) by b", x.force(1, 0), 60);
        Check.due("force(1, 3) by c", x.force(1, 3), 30);
        StrawMen most = Check.told("claim a 10 0;claim b 30 0;claim c 20 0;claim d 1 0;"
            + "contra a d;contra b d;contra c d;member x;holds x a;holds x b;holds x c;");
        Check.due("force is the most", most.force(0, 3), 30);
        Check.due("force(2, 0)", x.force(2, 0), Check.NONE);
        Check.due("force(-1, 0)", x.force(-1, 0), Check.NONE);
        Check.due("force(0, 5)", x.force(0, 5), Check.NONE);
        Check.due("force(0, -1)", x.force(0, -1), Check.NONE);
    }

    private static long lean(String law) {
        return Check.told(ONE + "law lean " + law + ";").law(0, 0, 0);
    }

    private static void values() {
        Check.due("sums", lean("1 + 2 * 3 - 4 - 5"), -2);
        Check.due("cut towards 0", lean("(0 - 7) / 2"), -3);
        Check.due("cut towards 0, too", lean("7 / (0 - 2)"), -3);
        Check.due("from the left", lean("100 / 5 / 2 * 3"), 30);
        Check.due("less", lean("(1 < 2) + (2 < 2) * 10"), 1);
        Check.due("less or the same", lean("(2 <= 2) + (3 <= 2) * 10"), 1);
        Check.due("the same", lean("(2 = 2) + (3 = 2) * 10"), 1);
        Check.due("other", lean("(3 <> 2) + (2 <> 2) * 10"), 1);
        Check.due("more or the same", lean("(2 >= 2) + (1 >= 2) * 10"), 1);
        Check.due("more", lean("(3 > 2) + (2 > 2) * 10"), 1);
        Check.due("and is 1", lean("5 and 7"), 1);
        Check.due("or is 1", lean("0 or 7"), 1);
        Check.due("not is 0", lean("not 7"), 0);
        Check.due("not of a sum", lean("not 1 - 1"), 1);
        Check.due("not not", lean("not not 7"), 1);
        Check.due("and ahead of or", lean("1 or 0 and 0"), 1);
        Check.due("not ahead of and", lean("not 0 and 0"), 0);
        Check.due("compared ahead of not", lean("not 1 < 2"), 0);
        Check.due("10 to the 12", lean("9999*9999*9999+9999*9999*3+9999*3+1"), 1000000000000L);
        Check.due("less than 0 by it", lean("0-9999*9999*9999-9999*9999*3-9999*3-1"), -1000000000000L);
    }

    private static void errors() {
        Check.due("by 0", lean("1 / 0"), Check.NO_VALUE);
        Check.due("both sides", lean("1 or 1 / 0"), Check.NO_VALUE);
        Check.due("both sides of and", lean("0 and 1 / 0"), Check.NO_VALUE);
        Check.due("above 10 to the 12", lean("9999*9999*9999+9999*9999*3+9999*3+2"), Check.NO_VALUE);
        Check.due("too far below", lean("0-9999*9999*9999-9999*9999*3-9999*3-2"), Check.NO_VALUE);
        Check.due("on the way", lean("9999*9999*9999*2/2"), Check.NO_VALUE);
        Check.due("beyond a long", lean("(9999*9999*9999)*(9999*9999*9999)*0"), Check.NO_VALUE);
        Check.due("round a long", lean("(8192*8192*8192)*(8192*8192*8)*0"), Check.NO_VALUE);
        StrawMen x = Check.told(ONE + "law lean 7;");
        Check.due("law(0, 0, 0)", x.law(0, 0, 0), 7);
        Check.due("law(1, 0, 0), untold", x.law(1, 0, 0), Check.NO_VALUE);
        Check.due("law(3, 0, 0)", x.law(3, 0, 0), Check.NO_VALUE);
        Check.due("law(-1, 0, 0)", x.law(-1, 0, 0), Check.NO_VALUE);
        Check.due("law(0, 1, 0)", x.law(0, 1, 0), Check.NO_VALUE);
        Check.due("law(0, -1, 0)", x.law(0, -1, 0), Check.NO_VALUE);
        Check.due("law(0, 0, 2)", x.law(0, 0, 2), Check.NO_VALUE);
        Check.due("law(0, 0, -1)", x.law(0, 0, -1), Check.NO_VALUE);
    }

    private static void lawNames() {
        String[] names = {"weight", "temper", "full", "force", "wins", "held", "night"};
        int[] first = {60, 2, 50, 40, 0, 1, 0};
        int[] later = {60, 2, 40, 40, 1, 1, 3};
        for (int i = 0; i < names.length; i++) {
            StrawMen x = Check.told(ONE + "law turn " + names[i] + ";debate x s 0;");
            Check.due(names[i], x.law(2, 0, 0), first[i]);
            x.go(3);
            Check.due(names[i] + " later", x.law(2, 0, 0), later[i]);
        }
        StrawMen shed = Check.told(ONE + "law turn full + night * 10;law wear 99;debate x s 0;");
        shed.go(1);
        Check.due("in the shed", shed.straw(0, 2), 1);
        Check.due("of one in the shed", shed.law(2, 0, 0), 10);
    }

    private static void debates() {
        StrawMen x = Check.told(ONE);
        Check.due("wins", x.debate(0, 0), 1);
        Check.due("worn by 10", x.straw(0, 1), 40);
        Check.due("won", x.member(0, 1), 1);
        Check.due("beaten", x.debate(1, 0), 0);
        Check.due("not worn", x.straw(0, 1), 40);
        Check.due("beaten once", x.member(1, 2), 1);
        Check.due("not turned", x.member(1, 0), 0);
        for (int i = 0; i < 4; i++) {
            x.debate(0, 0);
        }
        Check.due("FULL 0", x.straw(0, 1), 0);
        Check.due("in the barn yet", x.straw(0, 2), 0);
        Check.due("debated at FULL 0", x.debate(0, 0), 1);
        Check.due("0 at least", x.straw(0, 1), 0);
        x.go(1);
        Check.due("in the shed", x.debate(0, 0), -2);
        Check.due("nothing put off by call", x.count(10), 0);
        Check.due("debate(2, 0)", x.debate(2, 0), Check.NONE);
        Check.due("debate(-1, 0)", x.debate(-1, 0), Check.NONE);
        Check.due("debate(0, 1)", x.debate(0, 1), Check.NONE);
        Check.due("debate(0, -1)", x.debate(0, -1), Check.NONE);
        StrawMen same = Check.told("claim a 30 0;claim b 60 0;contra a b;straw s b 50;member x;holds x a;");
        Check.due("the same is not more", same.debate(0, 0), 0);
        StrawMen cut = Check.told("claim a 30 0;claim b 61 0;contra a b;straw s b 49;member x;holds x a;");
        Check.due("cut", cut.debate(0, 0), 1);
    }

    private static void lawsInDebates() {
        StrawMen x = Check.told(ONE + "law lean 0 - 1;");
        Check.due("lean is 0 at least", x.debate(1, 0), 0);
        Check.due("lean of 0", x.debate(0, 0), 1);
        x = Check.told("claim a 99 0;claim b 0 0;contra a b;straw s b 99;member x;holds x a;law lean 9999 * 9999;");
        Check.due("a high lean", x.debate(0, 0), 0);
        x = Check.told(ONE + "law lean 1 / night;");
        Check.due("lean with an error", x.debate(0, 0), 1);
        x = Check.told(ONE + "law lean 40;");
        Check.due("lean by law", x.debate(0, 0), 0);
        x = Check.told(ONE + "law wear 3 + wins * 5;");
        x.debate(0, 0);
        Check.due("wins as ahead of it", x.straw(0, 1), 47);
        x.debate(0, 0);
        Check.due("worn by wins", x.straw(0, 1), 39);
        x = Check.told(ONE + "law wear 0 - 3;");
        Check.due("a win", x.debate(0, 0), 1);
        Check.due("wear is 0 at least", x.straw(0, 1), 50);
        x = Check.told(ONE + "law wear 1 / night;");
        x.debate(0, 0);
        Check.due("wear with an error", x.straw(0, 1), 40);
        x = Check.told("claim a 99 0;claim b 60 2;contra a b;straw s b 99;member x;holds x a;law wear 9999;");
        x.debate(0, 0);
        Check.due("wear is 99 at most", x.straw(0, 1), 0);
        x = Check.told(ONE + "law turn 0 - 1;");
        Check.due("beaten", x.debate(1, 0), 0);
        Check.due("turned", x.member(1, 0), 2);
        x.debate(1, 0);
        Check.due("turned already", x.member(1, 0), 2);
        Check.due("won ones aren't turned", x.debate(0, 0), 1);
        Check.due("holds", x.member(0, 0), 1);
        x = Check.told(ONE + "law turn 1 / night;");
        x.debate(1, 0);
        Check.due("turn with an error", x.member(1, 0), 0);
        x = Check.told(ONE + "law turn 0;");
        x.debate(1, 0);
        Check.due("turn of 0", x.member(1, 0), 0);
    }

    private static void takesAndDrops() {
        StrawMen x = Check.told(ONE);
        Check.due("take(1, 0)", x.take(1, 0), 1);
        Check.due("take(1, 1)", x.take(1, 1), 2);
        Check.due("take(1, 1) again", x.take(1, 1), Check.NONE);
        Check.due("take(2, 0)", x.take(2, 0), Check.NONE);
        Check.due("take(-1, 0)", x.take(-1, 0), Check.NONE);
        Check.due("take(1, 2)", x.take(1, 2), Check.NONE);
        Check.due("take(1, -1)", x.take(1, -1), Check.NONE);
        Check.due("drop(1, 0)", x.drop(1, 0), true);
        Check.due("drop(1, 0) again", x.drop(1, 0), false);
        Check.due("drop(2, 0)", x.drop(2, 0), false);
        Check.due("drop(-1, 1)", x.drop(-1, 1), false);
        Check.due("drop(1, 2)", x.drop(1, 2), false);
        Check.due("drop(1, -1)", x.drop(1, -1), false);
        Check.due("holds b", x.member(1, 0), 2);
    }

    private static void nights() {
        StrawMen x = Check.told(Check.FIVE_CLAIMS);
        Check.due("go(0)", x.go(0), 0);
        Check.due("go(-1)", x.go(-1), Check.NONE);
        Check.due("go(201)", x.go(201), Check.NONE);
        Check.due("go(1)", x.go(1), 1);
        Check.due("s after night 0", x.straw(0, 1), 40);
        Check.due("go(1)", x.go(1), 2);
        Check.due("t in the shed", x.straw(1, 2), 1);
        Check.due("go(1)", x.go(1), 3);
        Check.due("put off", x.count(10), 1);
        Check.due("y wasn't beaten", x.member(1, 2), 0);
        Check.due("go(3)", x.go(3), 6);
        Check.due("t is full", x.straw(1, 1), 99);
        Check.due("t is in the barn", x.straw(1, 2), 0);
        Check.due("put off for good", x.member(1, 2), 0);
        Check.due("s", x.straw(0, 1), 30);
    }

    private static void stuffings() {
        StrawMen x = Check.told(ONE + "stuff s 0;debate x s 0;");
        x.go(1);
        Check.due("stuffed ahead of the debate", x.member(0, 2), 1);
        x = Check.told(ONE + "debate x s 0;debate x s 0;debate y s 0;law wear 25;law turn night = 0;debate y s 1;");
        x.go(1);
        Check.due("debates by numbers", x.member(0, 1), 2);
        Check.due("FULL 0 is debated", x.member(1, 2), 1);
        Check.due("y is turned", x.member(1, 0), 2);
        Check.due("then it is in the shed", x.straw(0, 2), 1);
        x.go(1);
        Check.due("put off", x.count(10), 1);
        x = Check.told(ONE + "law wear 99;debate x s 0;stuff s 1;debate x s 1;damp 100;");
        x.go(2);
        Check.due("stuffed in the shed, debated", x.count(8), 1);
        Check.due("and damp", x.straw(0, 1), 98);
    }

    private static void dampByNumbers() {
        String three = "claim a 1 1;straw s a 9;straw t a 2;straw u a 30;member x;";
        for (int damp = 0; damp <= 100; damp += 10) {
            for (int seed = 0; seed <= 99999; seed += 33333) {
                StrawMen x = Check.told(three + "damp " + damp + ";seed " + seed + ";");
                int[] full = {9, 2, 30};
                boolean[] shed = new boolean[3];
                long last = seed;
                for (int night = 1; night <= 40; night++) {
                    for (int i = 0; i < 3; i++) {
                        if (!shed[i]) {
                            boolean wet = damp == 100;
                            if (damp > 0 && damp < 100) {
                                last = (last * 1103515245L + 12345L) % (1L << 31);
                                wet = last / 65536 % 100 < damp;
                            }
                            full[i] -= wet && full[i] > 0 ? 1 : 0;
                            shed[i] = full[i] == 0;
                        }
                    }
                    x.go(1);
                    for (int i = 0; i < 3; i++) {
                        Check.due("damp " + damp + " seed " + seed + " night " + night, x.straw(i, 1), full[i]);
                        Check.due("shed by damp " + damp, x.straw(i, 2) == 1, shed[i]);
                    }
                }
            }
        }
    }

    private static void farNights() {
        StrawMen x = Check.told(ONE);
        for (int i = 1; i <= 44; i++) {
            x.go(200);
        }
        Check.due("go(199)", x.go(199), 8999);
        Check.due("go(2) behind 9000", x.go(2), Check.NONE);
        Check.due("none went by", x.count(6), 8999);
        Check.due("go(1)", x.go(1), 9000);
        Check.due("go(1) behind 9000", x.go(1), Check.NONE);
        Check.due("go(0)", x.go(0), 9000);
        Check.due("ahead of 9000", x.ahead(200, 3, 0), 0);
    }

    private static void aheads() {
        StrawMen x = Check.told(Check.FIVE_CLAIMS);
        int[][] due = {{0, 0, 4, 0, 0}, {1, 0, 4, 0, 0}, {2, 0, 0, 1, 0}, {2, 0, 0, 1, 1}, {3, 0, 0, 1, 1}};
        for (int n = 0; n < due.length; n++) {
            for (int what = 0; what < 5; what++) {
                Check.due("ahead(" + n + ", " + what + ", 1)", x.ahead(n, what, 1), due[n][what]);
            }
        }
        Check.due("ahead(200, 2, 1)", x.ahead(200, 2, 1), 99);
        Check.due("no straw is looked at", x.ahead(4, 0, 77), 3);
        Check.due("ahead(4, 2, 2)", x.ahead(4, 2, 2), Check.NONE);
        Check.due("ahead(4, 2, -1)", x.ahead(4, 2, -1), Check.NONE);
        Check.due("ahead(-1, 0, 0)", x.ahead(-1, 0, 0), Check.NONE);
        Check.due("ahead(201, 0, 0)", x.ahead(201, 0, 0), Check.NONE);
        Check.due("ahead(1, 5, 0)", x.ahead(1, 5, 0), Check.NONE);
        Check.due("ahead(1, -1, 0)", x.ahead(1, -1, 0), Check.NONE);
        Check.due("nothing is done", x.count(6) + x.count(7) + x.count(9), 0);
        x.go(2);
        Check.due("won more", x.ahead(2, 0, 0), 1);
        Check.due("put off more", x.ahead(2, 4, 0), 1);
        Check.due("in the shed then, not more", x.ahead(0, 3, 0), 1);
        x.go(1);
        Check.due("put off already", x.ahead(2, 4, 0), 0);
        StrawMen y = Check.told(ONE + "debate y s 0;debate y s 1;");
        Check.due("beaten more", y.ahead(1, 1, 0), 1);
        y.go(1);
        Check.due("beaten more then", y.ahead(9, 1, 0), 1);
        Check.due("damp of 49", Check.told(ONE + "damp 49;").ahead(10, 2, 0), 50);
        Check.due("damp of 50", Check.told(ONE + "damp 50;").ahead(10, 2, 0), 40);
    }

    private static void shedding() {
        StrawMen x = Check.told(Check.FIVE_CLAIMS);
        Check.due("sheds(0)", x.sheds(0), -2);
        Check.due("sheds(1)", x.sheds(1), 2);
        x.go(2);
        Check.due("sheds(1) in the shed", x.sheds(1), 0);
        Check.due("sheds(2)", x.sheds(2), Check.NONE);
        Check.due("sheds(-1)", x.sheds(-1), Check.NONE);
        String wet = "claim a 1 1;straw s a 99;damp 50;";
        Check.due("damp each night", Check.told(wet).sheds(0), 99);
        Check.due("stuffed when it is in the shed", Check.told(wet + "stuff s 99;").sheds(0), 99);
        Check.due("stuffed a night ahead", Check.told(wet + "stuff s 98;").sheds(0), 197);
        Check.due("stuffed twice", Check.told(wet + "stuff s 50;stuff s 99;").sheds(0), 198);
        Check.due("never damp", Check.told("claim a 1 1;straw s a 1;damp 49;").sheds(0), -2);
    }

    private static void chances() {
        String wet = "claim a 1 1;straw s a 3;straw t a 50;damp 40;seed 5;";
        StrawMen x = Check.told(wet);
        x.go(1);
        long[] last = {0};
        for (int seed : new int[] {0, 1, 77, 2147483647}) {
            last[0] = seed;
            int due = 0;
            for (int time = 0; time < 10; time++) {
                due += chanced(x.straw(0, 1), x.straw(1, 1), last) ? 1 : 0;
            }
            x.ahead(5, 0, 0);
            Check.due("chance of " + seed, x.chance(seed, 6, 0), due);
            Check.due("chance of the full one", x.chance(seed, 6, 1), 0);
        }
        StrawMen other = Check.told(wet);
        other.go(1);
        x.go(4);
        other.go(4);
        Check.due("its own numbers stay", x.straw(1, 1), other.straw(1, 1));
        Check.due("damp 100", Check.told("claim a 1 1;straw s a 3;damp 100;").chance(9, 3, 0), 10);
        Check.due("damp 100, too soon", Check.told("claim a 1 1;straw s a 3;damp 100;").chance(9, 2, 0), 0);
        Check.due("damp 100, one night", Check.told("claim a 1 1;straw s a 1;damp 100;").chance(9, 1, 0), 10);
        Check.due("damp 0", Check.told("claim a 1 1;straw s a 1;").chance(9, 99, 0), 0);
        Check.due("chance(-1, ..)", x.chance(-1, 6, 0), Check.NONE);
        Check.due("chance(.., 0, ..)", x.chance(0, 0, 0), Check.NONE);
        Check.due("chance(.., 100, ..)", x.chance(0, 100, 0), Check.NONE);
        Check.due("chance(.., 2)", x.chance(0, 6, 2), Check.NONE);
        Check.due("chance(.., -1)", x.chance(0, 6, -1), Check.NONE);
    }

    private static boolean chanced(int first, int second, long[] last) {
        int[] full = {first, second};
        for (int night = 0; night < 6; night++) {
            for (int i = 0; i < 2; i++) {
                if (full[i] > 0) {
                    last[0] = (last[0] * 1103515245L + 12345L) % (1L << 31);
                    full[i] -= last[0] / 65536 % 100 < 40 ? 1 : 0;
                }
            }
        }
        return full[0] == 0;
    }

    /** What is tried otherwise is as it was for what is asked next. */
    private static void trialsLeaveNothing() {
        StrawMen x = Check.told("claim a 41 1;claim b 60 2;contra a b;contra b a;straw s b 67;straw t a 10;member x;holds x a;"
            + "member y;holds y b;debate x s 0;debate x s 2;debate x s 3;debate y t 3;damp 60;law wear 66;");
        // On night 0 the lean is 40, x wins and wears s down to 1, damp makes it 0; y wins on night 3.
        Check.due("as it goes", x.ahead(4, 0, 0), 2);
        int[] due = {3, 4, 1, 1, 2};
        for (int what = 0; what < 5; what++) {
            Check.due("tried(" + what + ", 0, 4)", x.tried(what, 0, 4), due[what]);
            Check.due("ahead behind it", x.ahead(4, 0, 0), 2);
            x.tried(what, 0, 4);
            Check.due("chance behind it", x.chance(1, 4, 0), Check.told("claim a 41 1;claim b 60 2;contra a b;contra b a;"
                + "straw s b 67;straw t a 10;member x;holds x a;member y;holds y b;debate x s 0;debate x s 2;"
                + "debate x s 3;debate y t 3;damp 60;law wear 66;").chance(1, 4, 0));
            x.tried(what, 0, 4);
            if (what == 0) {
                x.see(4, 1, 1, true);
                x.see(4, 0, 1, true);
            }
            Check.due("held behind it", x.held(0), 1);
        }
    }

    private static void trials() {
        StrawMen x = Check.told(Check.FIVE_CLAIMS);
        int[] due = {3, 3, 0, 0, 3};
        for (int what = 0; what < 5; what++) {
            Check.due("tried(" + what + ", 0, 4)", x.tried(what, 0, 4), due[what]);
        }
        Check.due("y doesn't debate", x.tried(2, 1, 4), 3);
        Check.due("tried(2, 2, 4)", x.tried(2, 2, 4), Check.NONE);
        Check.due("tried(2, -1, 4)", x.tried(2, -1, 4), Check.NONE);
        Check.due("tried(0, 1, 4)", x.tried(0, 1, 4), Check.NONE);
        Check.due("tried(3, -1, 4)", x.tried(3, -1, 4), Check.NONE);
        Check.due("tried(5, 0, 4)", x.tried(5, 0, 4), Check.NONE);
        Check.due("tried(-1, 0, 4)", x.tried(-1, 0, 4), Check.NONE);
        Check.due("tried(0, 0, -1)", x.tried(0, 0, -1), Check.NONE);
        Check.due("tried(0, 0, 201)", x.tried(0, 0, 201), Check.NONE);
        Check.due("tried(0, 0, 0)", x.tried(0, 0, 0), 0);
        Check.due("tried(0, 0, 200)", x.tried(0, 0, 200), 3);
        Check.due("nothing is done", x.count(6) + x.count(7), 0);
        x.go(1);
        Check.due("won more", x.tried(0, 0, 3), 2);
        // It is dry, so that it leans too much; damp makes it light.
        String wet = "claim a 31 1;claim b 60 2;contra a b;straw s b 55;member x;holds x a;debate x s 4;damp 50;";
        Check.due("damp", Check.told(wet).ahead(5, 0, 0), 1);
        Check.due("no damp", Check.told(wet).tried(0, 0, 5), 0);
        String worn = "claim a 40 1;claim b 60 2;contra a b;straw s b 66;member x;holds x a;debate x s 0;debate x s 1;"
            + "law wear 60;debate x s 2;debate x s 3;";
        Check.due("worn out", Check.told(worn).ahead(4, 0, 0), 2);
        Check.due("nothing wears", Check.told(worn).tried(1, 0, 4), 4);
        String both = "claim a 40 1;claim b 60 2;contra b a;straw s b 50;member x;holds x a;debate x s 0;";
        StrawMen ways = Check.told(both);
        Check.due("both ways", ways.tried(4, 0, 1), 1);
        Check.due("one way", ways.ahead(1, 0, 0), 0);
        ways.see(1, 0, 1, true);
        ways.tried(4, 0, 1);
        Check.due("one way for what he held", ways.held(0), 0);
        Check.due("force by name both ways", Check.told(both + "law lean force;").tried(4, 0, 1), 0);
        StrawMen shed = Check.told("claim a 99 1;claim b 60 2;contra a b;straw s b 50;member x;holds x a;"
            + "law wear 99;debate x s 0;debate x s 1;");
        shed.go(1);
        Check.due("put off", shed.ahead(1, 0, 0), 0);
        Check.due("all is full and in the barn", shed.tried(3, 0, 1), 1);
        Check.due("it is in the shed yet", shed.straw(0, 2), 1);
    }
}
