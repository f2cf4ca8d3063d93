/** Sentences on debates, laws and nights: the second part of 'Terms', promises 11 to 14. */
final class NightSentences {
    private static final String ONE = TextSentences.ONE;
    // 10 to the 12, in 17 knots.
    private static final String MOST = "9999*9999*9999+9999*9999*3+9999*3+1";

    private NightSentences() {
    }

    static void all() {
        barnAndShed();
        force();
        lean();
        stuffings();
        putOff();
        winning();
        beaten();
        dampByNumbers();
        nextNight();
        names();
        values();
        errors();
        numbers();
        asItGoes();
        debating();
        inTheShed();
        noDebate();
        taking();
        noTaking();
        dropping();
        noDropping();
        going();
        notGoing();
    }

    private static long value(String law) {
        return Check.told(ONE + "law lean " + law + ";").law(0, 0, 0);
    }

    private static void barnAndShed() {
        Doc.says("Terms 2", "A STRAW is in the BARN, or in the SHED.");
        StrawMen x = Check.told("claim a 1 1;straw s a 1;straw t a 2;damp 100;stuff s 1;");
        int[][] shed = {{0, 0}, {1, 0}, {0, 1}, {0, 1}};
        for (int night = 0; night < shed.length; night++) {
            Check.due("s on NIGHT " + night, x.straw(0, 2), shed[night][0]);
            Check.due("t on NIGHT " + night, x.straw(1, 2), shed[night][1]);
            Check.due("in the SHED on NIGHT " + night, x.count(9), shed[night][0] + shed[night][1]);
            x.go(1);
        }
    }

    private static void force() {
        Doc.says("Terms 2", "FORCE of a MEMBER with a CLAIM: the most WEIGHT of those he HOLDS that are AGAINST it; 0, if none is.");
        StrawMen x = Check.told("claim a 10 0;claim b 30 0;claim c 20 0;claim d 1 0;claim e 99 0;claim f 0 0;contra a d;contra b d;"
            + "contra c d;contra d e;contra f d;member x;member y;member z;holds x a;holds x b;holds x c;holds x e;holds z f;");
        Check.due("the most of several", x.force(0, 3), 30);
        Check.due("of one that isn't AGAINST it, nothing", x.force(0, 0), 0);
        Check.due("who HOLDS nothing", x.force(1, 3), 0);
        Check.due("of WEIGHT 0", x.force(2, 3), 0);
        Check.due("AGAINST it, not the other way", x.force(0, 4), 0);
        x.drop(0, 1);
        Check.due("the most of those left", x.force(0, 3), 20);
    }

    private static void lean() {
        Doc.says("Terms 2", "LEAN of a STRAW with a MEMBER: E of lean (0 .. 999; WEIGHT of its CLAIM times FULL by 100, cut, without,"
            + " with an ERROR).");
        // FORCE 40: it is more than a LEAN of 39, no more than one of 40.
        String forty = "claim a 40 0;claim b 81 0;contra a b;member x;member y;holds x a;";
        Check.due("81 times 49 by 100 is 39, cut", Check.told(forty + "straw s b 49;").debate(0, 0), 1);
        Check.due("81 times 50 by 100 is 40, cut", Check.told(forty + "straw s b 50;").debate(0, 0), 0);
        Check.due("with an ERROR, 39", Check.told(forty + "straw s b 49;law lean 1/0;").debate(0, 0), 1);
        Check.due("with an ERROR, 40", Check.told(forty + "straw s b 50;law lean 1/0;").debate(0, 0), 0);
        Check.due("with an ERROR by much, 39", Check.told(forty + "straw s b 49;law lean " + MOST + "+1;").debate(0, 0), 1);
        Check.due("with an ERROR far below, 40", Check.told(forty + "straw s b 50;law lean 0-(" + MOST + ")-1;").debate(0, 0), 0);
        Check.due("39 by law", Check.told(forty + "straw s b 99;law lean 39;").debate(0, 0), 1);
        Check.due("40 by law", Check.told(forty + "straw s b 1;law lean 40;").debate(0, 0), 0);
        Check.due("below 0 is 0, FORCE 40", Check.told(forty + "straw s b 99;law lean 0-1;").debate(0, 0), 1);
        Check.due("below 0 is 0, FORCE 0", Check.told(forty + "straw s b 1;law lean 0-1;").debate(1, 0), 0);
        Check.due("far below 0 is 0", Check.told(forty + "straw s b 1;law lean 0-(" + MOST + ");").debate(1, 0), 0);
        Check.due("0 by law, FORCE 0", Check.told(forty + "straw s b 1;law lean 0;").debate(1, 0), 0);
        for (String high : new String[] {"999", "1000", "9999*9999", "9999*9999*43", "9999*9999*9999", MOST}) {
            Check.due("far too high: " + high, Check.told(forty + "straw s b 1;law lean " + high + ";").debate(0, 0), 0);
        }
        Check.due("WEIGHT 0 leans by 0", Check.told("claim a 1 0;claim b 0 0;contra a b;member x;holds x a;straw s b 99;")
            .debate(0, 0), 1);
    }

    private static void stuffings() {
        Doc.says("Terms 2", "A NIGHT: (1) stuffings of this NIGHT, by their numbers: FULL is 99, it is in the BARN (wherever it was).");
        StrawMen x = Check.told("claim a 1 1;straw s a 1;straw t a 99;straw u a 7;stuff u 2;stuff t 2;stuff s 2;stuff s 2;damp 100;");
        x.go(2);
        Check.due("s is in the SHED", x.straw(0, 2), 1);
        Check.due("t", x.straw(1, 1), 97);
        x.go(1);
        for (int straw = 0; straw < 3; straw++) {
            Check.due("FULL of " + straw + ", stuffed and damp once", x.straw(straw, 1), 98);
            Check.due("in the BARN, " + straw, x.straw(straw, 2), 0);
        }
        StrawMen ahead = Check.told(ONE + "debate x s 0;stuff s 0;");
        ahead.go(1);
        Check.due("stuffed ahead of the DEBATE, so BEATEN", ahead.member(0, 2), 1);
        StrawMen again = Check.told("claim a 1 1;straw s a 1;stuff s 0;damp 100;");
        again.go(100);
        Check.due("on this NIGHT alone", again.straw(0, 2), 1);
    }

    private static void putOff() {
        Doc.says("Terms 2", "(2) DEBATES of this NIGHT, by their numbers: with a STRAW in the SHED it is PUT OFF (for good; one that is"
            + " FULL 0, but in the BARN yet, is debated).");
        // On NIGHT 0 s is worn to 0 by the first, debated by the second and third; on 1 it is PUT OFF twice, on 2 it is back.
        StrawMen x = Check.told(ONE + "law wear 99;debate x s 0;debate x s 0;debate y s 0;debate x s 1;debate y s 1;stuff s 2;"
            + "debate y s 2;");
        x.go(1);
        Check.due("WON on NIGHT 0, once at FULL 0", x.member(0, 1), 2);
        Check.due("BEATEN on NIGHT 0 at FULL 0, FORCE 0 is no more than LEAN 0", x.member(1, 2), 1);
        Check.due("PUT OFF on NIGHT 0", x.count(10), 0);
        x.go(1);
        Check.due("PUT OFF on NIGHT 1", x.count(10), 2);
        Check.due("WON stays", x.count(7), 2);
        Check.due("BEATEN stays", x.count(8), 1);
        x.go(100);
        Check.due("PUT OFF for good", x.count(10), 2);
        Check.due("WON then", x.count(7), 2);
        Check.due("BEATEN then", x.count(8), 2);
        // By their numbers: x wins only once y has worn it.
        String two = "claim a 40 1;claim b 60 2;claim c 99 0;contra a b;contra c b;straw s b 80;member x;member y;holds x a;"
            + "holds y c;law wear 30;";
        StrawMen first = Check.told(two + "debate x s 0;debate y s 0;");
        first.go(1);
        Check.due("x first", first.member(0, 2), 1);
        StrawMen second = Check.told(two + "debate y s 0;debate x s 0;");
        second.go(1);
        Check.due("y first", second.member(0, 1), 1);
    }

    private static void winning() {
        Doc.says("Terms 2", "Else, if FORCE is more than LEAN, the MEMBER WINS once more, and FULL is less by E of wear (0 .. 99; 10"
            + " without, with an ERROR), 0 at least;");
        String[] wears = {"", "law wear 1/0;", "law wear " + MOST + "+1;", "law wear 0;", "law wear 1;", "law wear 49;",
            "law wear 50;", "law wear 51;", "law wear 99;", "law wear 100;", "law wear 9999*9999*43;", "law wear " + MOST + ";",
            "law wear 0-1;", "law wear 0-(" + MOST + ");", "law wear 0-(" + MOST + ")-1;"};
        int[] due = {40, 40, 40, 50, 49, 1, 0, 0, 0, 0, 0, 0, 50, 50, 40};
        for (int i = 0; i < wears.length; i++) {
            StrawMen x = Check.told(ONE + wears[i]);
            Check.due("WINS, " + wears[i], x.debate(0, 0), 1);
            Check.due("WON, " + wears[i], x.member(0, 1), 1);
            Check.due("BEATEN, " + wears[i], x.member(0, 2), 0);
            Check.due("FULL, " + wears[i], x.straw(0, 1), due[i]);
        }
        StrawMen full = Check.told("claim a 99 0;claim b 1 0;contra a b;straw s b 99;member x;holds x a;law wear 99;");
        full.debate(0, 0);
        Check.due("99 less 99", full.straw(0, 1), 0);
        full.debate(0, 0);
        Check.due("0 at least", full.straw(0, 1), 0);
        StrawMen same = Check.told("claim a 30 0;claim b 60 0;contra a b;straw s b 50;member x;holds x a;");
        Check.due("30 is no more than 30", same.debate(0, 0), 0);
        Check.due("nothing is worn by it", same.straw(0, 1), 50);
        StrawMen more = Check.told("claim a 31 0;claim b 60 0;contra a b;straw s b 50;member x;holds x a;");
        Check.due("31 is more than 30", more.debate(0, 0), 1);
    }

    private static void beaten() {
        Doc.says("Terms 2", "if not, he is BEATEN once more, and if E of turn isn't 0 (0 without, with an ERROR), he HOLDS its CLAIM from"
            + " now on (if he does already, nothing comes of it).");
        String[] turns = {"", "law turn 1/0;", "law turn " + MOST + "+1;", "law turn 0;", "law turn 1;", "law turn 9999;",
            "law turn 0-1;", "law turn " + MOST + ";", "law turn 4096*4096*256;"};
        int[] due = {0, 0, 0, 0, 2, 2, 2, 2, 2};
        for (int i = 0; i < turns.length; i++) {
            StrawMen x = Check.told(ONE + turns[i]);
            Check.due("BEATEN, " + turns[i], x.debate(1, 0), 0);
            Check.due("HOLDS, " + turns[i], x.member(1, 0), due[i]);
            Check.due("how often WON, " + turns[i], x.member(1, 1), 0);
            Check.due("how often BEATEN, " + turns[i], x.member(1, 2), 1);
            Check.due("FULL, " + turns[i], x.straw(0, 1), 50);
            x.debate(1, 0);
            Check.due("HOLDS already, " + turns[i], x.member(1, 0), due[i]);
            Check.due("how often BEATEN then, " + turns[i], x.member(1, 2), 2);
            Check.due("one who WINS isn't turned, " + turns[i], x.debate(0, 0), 1);
            Check.due("he HOLDS what he held, " + turns[i], x.member(0, 0), 1);
        }
        StrawMen x = Check.told(ONE + "law turn 1;debate y s 0;");
        x.go(1);
        Check.due("by NIGHT, too", x.member(1, 0), 2);
    }

    private static void dampByNumbers() {
        Doc.says("Terms 2", "(3) by numbers each STRAW in the BARN: if a number modulo 100 (one for each; no number, if damp is 0 or 100)"
            + " is below damp, FULL is 1 less, 0 at least; if FULL is 0 then, damp or not, it goes to the SHED.");
        for (int damp : new int[] {0, 1, 2, 50, 98, 99, 100}) {
            for (int seed : new int[] {0, 1, 12345, 99999}) {
                byNumbers(damp, seed);
            }
        }
        StrawMen dry = Check.told(ONE + "law wear 50;debate x s 0;");
        dry.go(1);
        Check.due("not damp, but FULL 0", dry.straw(0, 2), 1);
        StrawMen wet = Check.told(ONE + "law wear 50;debate x s 0;damp 100;");
        wet.go(1);
        Check.due("damp at FULL 0", wet.straw(0, 1), 0);
        Check.due("in the SHED", wet.straw(0, 2), 1);
        StrawMen one = Check.told(ONE + "law wear 49;debate x s 0;damp 100;");
        one.go(1);
        Check.due("damp at FULL 1", one.straw(0, 1), 0);
        Check.due("in the SHED by damp", one.straw(0, 2), 1);
        StrawMen call = Check.told(ONE + "law wear 50;");
        call.debate(0, 0);
        Check.due("by call, in the BARN yet", call.straw(0, 2), 0);
        call.go(1);
        Check.due("then in the SHED", call.straw(0, 2), 1);
    }

    private static void byNumbers(int damp, int seed) {
        StrawMen x = Check.told("claim a 1 1;straw s a 3;straw t a 60;straw u a 1;straw v a 99;straw w a 2;stuff u 30;damp " + damp
            + ";seed " + seed + ";");
        int[] full = {3, 60, 1, 99, 2};
        boolean[] shed = new boolean[5];
        long last = seed;
        for (int night = 0; night < 45; night++) {
            if (night == 30) {
                full[2] = 99;
                shed[2] = false;
            }
            for (int i = 0; i < 5; i++) {
                boolean wet = damp == 100;
                if (!shed[i] && damp > 0 && damp < 100) {
                    last = (last * 1103515245L + 12345L) % (1L << 31);
                    wet = last / 65536 % 100 < damp;
                }
                if (!shed[i] && wet) {
                    full[i]--;
                    shed[i] = full[i] == 0;
                }
            }
            x.go(1);
            for (int i = 0; i < 5; i++) {
                String which = " of " + i + " behind NIGHT " + night + ", damp " + damp + ", seed " + seed;
                Check.due("FULL" + which, x.straw(i, 1), full[i]);
                Check.due("in the SHED" + which, x.straw(i, 2), shed[i] ? 1 : 0);
            }
        }
    }

    private static void nextNight() {
        Doc.says("Terms 2", "Then it is the next NIGHT.");
        StrawMen x = Check.told(ONE + "debate x s 0;debate x s 2;");
        for (int night = 0; night < 4; night++) {
            Check.due("NIGHT", x.count(6), night);
            Check.due("WON ahead of NIGHT " + night, x.count(7), (night + 1) / 2);
            x.go(1);
        }
    }

    private static void names() {
        Doc.says("Terms 2", "NAMES: weight, temper: WEIGHT, TEMPER of the STRAW's CLAIM; full: FULL; force: FORCE of the MEMBER with it;"
            + " wins: how often the MEMBER WON; held: how many CLAIMS he HOLDS; night: the NIGHT");
        String[] names = {"weight", "temper", "full", "force", "wins", "held", "night"};
        int[][] due = {{60, 2, 50, 40, 0, 1, 0}, {60, 2, 40, 40, 1, 1, 3}, {60, 2, 40, 40, 0, 2, 3}};
        for (int i = 0; i < names.length; i++) {
            StrawMen x = Check.told(ONE + "law turn " + names[i] + ";debate x s 0;");
            Check.due(names[i] + " of x", x.law(2, 0, 0), due[0][i]);
            x.go(3);
            Check.due(names[i] + " of x on NIGHT 3", x.law(2, 0, 0), due[1][i]);
            x.take(1, 1);
            x.take(1, 0);
            Check.due(names[i] + " of y who took both", x.law(2, 0, 1), due[2][i]);
        }
        Doc.says("Terms 2", "(all as they are ahead of this DEBATE, of lean, wear and turn alike; of one in the SHED likewise).");
        StrawMen x = Check.told(ONE + "law wear 3 + wins * 5;");
        x.debate(0, 0);
        Check.due("wins of wear, ahead of the first", x.straw(0, 1), 47);
        x.debate(0, 0);
        Check.due("wins of wear, ahead of the second", x.straw(0, 1), 39);
        StrawMen full = Check.told(ONE + "law wear full / 2;");
        full.debate(0, 0);
        Check.due("full of wear", full.straw(0, 1), 25);
        StrawMen turned = Check.told(ONE + "law turn held = 0;");
        turned.debate(1, 0);
        Check.due("held of turn, ahead", turned.member(1, 0), 2);
        StrawMen night = Check.told(ONE + "debate x s 0;debate x s 1;law wear 7 + night * 10;");
        night.go(2);
        Check.due("night of wear", night.straw(0, 1), 50 - 7 - 17);
        StrawMen shed = Check.told(ONE + "law wear 99;debate x s 0;law turn weight + full + force * 100 + wins * 5000 + night * 9999;");
        shed.go(1);
        Check.due("it is in the SHED", shed.straw(0, 2), 1);
        Check.due("of one in the SHED", shed.law(2, 0, 0), 60 + 4000 + 5000 + 9999);
    }

    private static void values() {
        Doc.says("Terms 2", "VALUES are longs; comparisons, and, or, not are 1 or 0 (what isn't 0 is as 1, both sides are worked out), / is"
            + " cut towards 0;");
        Check.due("beyond an int", value("9999*9999*9999"), 999700029999L);
        Check.due("beyond an int, far below 0", value("0-9999*9999*9999"), -999700029999L);
        Check.due("2 to the 32 isn't 0", value("not 4096*4096*256"), 0);
        String[] compared = {"<", "<=", "=", "<>", ">=", ">"};
        int[][] due = {{1, 0, 0}, {1, 1, 0}, {0, 1, 0}, {1, 0, 1}, {0, 1, 1}, {0, 0, 1}};
        for (int i = 0; i < compared.length; i++) {
            Check.due("1 " + compared[i] + " 2", value("1 " + compared[i] + " 2"), due[i][0]);
            Check.due("2 " + compared[i] + " 2", value("2 " + compared[i] + " 2"), due[i][1]);
            Check.due("3 " + compared[i] + " 2", value("3 " + compared[i] + " 2"), due[i][2]);
            Check.due("0-3 " + compared[i] + " 2", value("0-3 " + compared[i] + " 2"), due[i][0]);
            Check.due("far ones " + compared[i], value("9999*9999*99 " + compared[i] + " 9999*9999*98"), due[i][2]);
        }
        String[] joined = {"0 and 0", "0 and 5", "5 and 0", "5 and 7", "0 or 0", "0 or 5", "5 or 0", "5 or 7", "not 0", "not 5",
            "not (0-5)", "(0-1) and (0-2)", "0 or 0-2", "2 and 4", "not 1"};
        int[] of = {0, 0, 0, 1, 0, 1, 1, 1, 1, 0, 0, 1, 1, 1, 0};
        for (int i = 0; i < joined.length; i++) {
            Check.due(joined[i], value(joined[i]), of[i]);
        }
        Check.due("both sides of or", value("1 or 1/0"), Check.NO_VALUE);
        Check.due("both sides of or, the first", value("1/0 or 1"), Check.NO_VALUE);
        Check.due("both sides of and", value("0 and 1/0"), Check.NO_VALUE);
        Check.due("both sides of 0 times", value("0*(1/0)"), Check.NO_VALUE);
        Check.due("not of an ERROR", value("not 1/0"), Check.NO_VALUE);
        Check.due("compared with an ERROR", value("1/0 = 1/0"), Check.NO_VALUE);
        String[] cut = {"7/2", "(0-7)/2", "7/(0-2)", "(0-7)/(0-2)", "1/2", "(0-1)/2", "0/5", "6/3"};
        int[] towards = {3, -3, -3, 3, 0, 0, 0, 2};
        for (int i = 0; i < cut.length; i++) {
            Check.due(cut[i], value(cut[i]), towards[i]);
        }
    }

    private static void errors() {
        Doc.says("Terms 2", "ERROR: / by 0, a value above 10 to the 12 or below 0 by more than that.");
        Check.due("1/0", value("1/0"), Check.NO_VALUE);
        Check.due("0/0", value("0/0"), Check.NO_VALUE);
        Check.due("1/(1-1)", value("1/(1-1)"), Check.NO_VALUE);
        Check.due("1/night", value("1/night"), Check.NO_VALUE);
        Check.due("10 to the 12", value(MOST), 1000000000000L);
        Check.due("one more", value(MOST + "+1"), Check.NO_VALUE);
        Check.due("one more, less one", value(MOST + "+1-1"), Check.NO_VALUE);
        Check.due("one more, by 2", value("(" + MOST + "+1)/2"), Check.NO_VALUE);
        Check.due("one more, times 0", value("(" + MOST + "+1)*0"), Check.NO_VALUE);
        Check.due("one more, compared", value(MOST + "+1>0"), Check.NO_VALUE);
        Check.due("as far below 0", value("0-(" + MOST + ")"), -1000000000000L);
        Check.due("one further", value("0-(" + MOST + ")-1"), Check.NO_VALUE);
        Check.due("one further, and one back", value("0-(" + MOST + ")-1+1"), Check.NO_VALUE);
        Check.due("times 1", value("(" + MOST + ")*1"), 1000000000000L);
        Check.due("times -1", value("(" + MOST + ")*(0-1)"), -1000000000000L);
        Check.due("times 2", value("(" + MOST + ")*2"), Check.NO_VALUE);
        Check.due("less itself", value("(" + MOST + ")-(" + MOST + ")"), 0);
        Check.due("by 10", value("(" + MOST + ")/10"), 100000000000L);
        Check.due("a product beyond a long", value("(9999*9999*9999)*(9999*9999*9999)"), Check.NO_VALUE);
        Check.due("one far below", value("(0-9999*9999*9999)*(9999*9999*9999)"), Check.NO_VALUE);
        // 2 to the 64, which is 0 in a long, and 2 to the 64 and 2 to the 32, which is 2 to the 32 in one.
        Check.due("2 to the 64", value("(4096*4096*256)*(4096*4096*256)"), Check.NO_VALUE);
        Check.due("that times 0", value("(4096*4096*256)*(4096*4096*256)*0"), Check.NO_VALUE);
        Check.due("round a long to a small one", value("(4096*4096*256)*(4096*4096*256+1)"), Check.NO_VALUE);
    }

    private static void numbers() {
        Doc.says("Terms 2", "Numbers are the last one (at first the seed) times 1103515245 and 12345, without what is above 31 bits, by"
            + " 65536.");
        // The first numbers from 0 on, by hand: 12345 by 65536 is 0; then 1406932606 by 65536 is 21468, and so on.
        long[] states = {12345, 1406932606, 654583775, 1449466924, 229283573, 1109335178};
        for (int damp : new int[] {1, 17, 18, 68, 69, 88, 89}) {
            StrawMen x = Check.told("claim a 1 1;straw s a 99;damp " + damp + ";");
            int full = 99;
            for (int night = 0; night < states.length; night++) {
                full -= states[night] / 65536 % 100 < damp ? 1 : 0;
                x.go(1);
                Check.due("FULL behind NIGHT " + night + " by damp " + damp, x.straw(0, 1), full);
            }
        }
        // From 2147483647 on, the most that 31 bits have, each is as by the long way.
        StrawMen x = Check.told("claim a 1 1;straw s a 1;damp 50;");
        int due = 0;
        long last = 2147483647;
        for (int time = 0; time < 10; time++) {
            last = (last * 1103515245L + 12345L) % (1L << 31);
            due += last / 65536 % 100 < 50 ? 1 : 0;
        }
        Check.due("chance(2147483647, 1, 0)", x.chance(2147483647, 1, 0), due);
    }

    private static void asItGoes() {
        Doc.says("Terms 2", "AS IT GOES: without numbers: it is damp, if damp is 50 at least.");
        int[] damp = {0, 1, 49, 50, 51, 99, 100};
        for (int of : damp) {
            StrawMen x = Check.told("claim a 1 1;straw s a 50;damp " + of + ";");
            Check.due("FULL in 7 NIGHTS by damp " + of, x.ahead(7, 2, 0), of >= 50 ? 43 : 50);
            Check.due("SHEDS by damp " + of, x.sheds(0), of >= 50 ? 50 : -2);
        }
        StrawMen asked = Check.told("claim a 1 1;straw s a 99;damp 50;seed 3;");
        StrawMen twin = Check.told("claim a 1 1;straw s a 99;damp 50;seed 3;");
        for (int night = 1; night <= 20; night++) {
            asked.ahead(9, 2, 0);
            asked.go(1);
            twin.go(1);
            Check.due("no number is used up, NIGHT " + night, asked.straw(0, 1), twin.straw(0, 1));
        }
    }

    private static void debating() {
        Doc.says("Promise 11", "A MEMBER debates a STRAW now (as in (2)): 1: he WINS, 0: he is BEATEN;");
        StrawMen x = Check.told(ONE + "law turn 1;damp 100;");
        Check.due("debate(0, 0)", x.debate(0, 0), 1);
        Check.due("FULL, no damp by call", x.straw(0, 1), 40);
        Check.due("WON", x.member(0, 1), 1);
        Check.due("NIGHT stays", x.count(6), 0);
        Check.due("debate(1, 0)", x.debate(1, 0), 0);
        Check.due("BEATEN", x.member(1, 2), 1);
        Check.due("turned", x.member(1, 0), 2);
        for (int i = 0; i < 4; i++) {
            Check.due("debate(0, 0) again", x.debate(0, 0), 1);
        }
        Check.due("FULL 0", x.straw(0, 1), 0);
        Check.due("FULL 0, but in the BARN yet", x.debate(0, 0), 1);
        Check.due("FULL 0 then", x.straw(0, 1), 0);
        Check.due("WON then", x.member(0, 1), 6);
    }

    private static void inTheShed() {
        Doc.says("Promise 11", "-2: it is in the SHED;");
        StrawMen x = Check.told(ONE + "law wear 99;law turn 1;debate x s 0;");
        x.go(1);
        x.take(1, 0);
        Check.due("debate(0, 0)", x.debate(0, 0), -2);
        Check.due("debate(1, 0)", x.debate(1, 0), -2);
        Check.due("WON stays", x.count(7), 1);
        Check.due("BEATEN stays", x.count(8), 0);
        Check.due("HELD stays", x.member(1, 0), 1);
        Check.due("PUT OFF stays", x.count(10), 0);
        Check.due("nothing more to undo", x.count(15), 1);
    }

    private static void noDebate() {
        Doc.says("Promise 11", "NONE: no such ones.");
        StrawMen x = Check.told(ONE);
        for (int member : Check.notOf(2)) {
            Check.due("debate(" + member + ", 0)", x.debate(member, 0), Check.NONE);
        }
        for (int straw : Check.notOf(1)) {
            Check.due("debate(0, " + straw + ")", x.debate(0, straw), Check.NONE);
        }
        Check.due("debate(0, 0) of a new one", new StrawMen().debate(0, 0), Check.NONE);
        Check.due("WON", x.count(7), 0);
        Check.due("BEATEN", x.count(8), 0);
        Check.due("FULL", x.count(11), 50);
        Check.due("to undo", x.count(15), 0);
        StrawMen shed = Check.told(ONE + "law wear 99;debate x s 0;");
        shed.go(1);
        Check.due("debate(2, 0), in the SHED", shed.debate(2, 0), Check.NONE);
    }

    private static final String EIGHT = "claim a 1 1;claim b 1 1;claim c 1 1;claim d 1 1;claim e 1 1;claim f 1 1;claim g 1 1;"
        + "claim h 1 1;member x;member y;";

    private static void taking() {
        Doc.says("Promise 12", "A MEMBER HOLDS a CLAIM from now on: how many he HOLDS;");
        StrawMen x = Check.told(EIGHT);
        for (int i = 0; i < 8; i++) {
            Check.due("take(0, " + (7 - i) + ")", x.take(0, 7 - i), i + 1);
        }
        Check.due("he HOLDS all", x.member(0, 0), 255);
        Check.due("the other one nothing", x.member(1, 0), 0);
        x.go(1);
        Check.due("from now on", x.member(0, 0), 255);
    }

    private static void noTaking() {
        Doc.says("Promise 12", "NONE: no such ones, he does.");
        StrawMen x = Check.told(EIGHT + "holds x a;");
        for (int member : Check.notOf(2)) {
            Check.due("take(" + member + ", 1)", x.take(member, 1), Check.NONE);
        }
        for (int claim : Check.notOf(8)) {
            Check.due("take(1, " + claim + ")", x.take(1, claim), Check.NONE);
        }
        Check.due("he does by the TEXT", x.take(0, 0), Check.NONE);
        Check.due("nothing is HELD more", x.count(12), 1);
        Check.due("nothing to undo", x.count(15), 0);
        Check.due("take(1, 7)", x.take(1, 7), 1);
        Check.due("he does by call", x.take(1, 7), Check.NONE);
        Check.due("one to undo", x.count(15), 1);
        Check.due("take(0, 0) of a new one", new StrawMen().take(0, 0), Check.NONE);
    }

    private static void dropping() {
        Doc.says("Promise 13", "A MEMBER gives a CLAIM up: true;");
        StrawMen x = Check.told(EIGHT + "holds x a;holds x h;holds y a;");
        Check.due("drop(0, 0)", x.drop(0, 0), true);
        Check.due("he HOLDS h", x.member(0, 0), 128);
        Check.due("drop(0, 7)", x.drop(0, 7), true);
        Check.due("he HOLDS nothing", x.member(0, 0), 0);
        Check.due("the other one HOLDS a", x.member(1, 0), 1);
        Check.due("he may take it again", x.take(0, 7), 1);
        Check.due("and give it up again", x.drop(0, 7), true);
    }

    private static void noDropping() {
        Doc.says("Promise 13", "false: no such ones, he doesn't HOLD it.");
        StrawMen x = Check.told(EIGHT + "holds x a;holds y a;holds y b;");
        for (int member : Check.notOf(2)) {
            Check.due("drop(" + member + ", 0)", x.drop(member, 0), false);
        }
        for (int claim : Check.notOf(8)) {
            Check.due("drop(0, " + claim + ")", x.drop(0, claim), false);
        }
        Check.due("drop(0, 1), the other one HOLDS it", x.drop(0, 1), false);
        Check.due("nothing is given up", x.count(12), 3);
        Check.due("nothing to undo", x.count(15), 0);
        Check.due("drop(0, 0)", x.drop(0, 0), true);
        Check.due("drop(0, 0) again", x.drop(0, 0), false);
        Check.due("one to undo", x.count(15), 1);
        Check.due("drop(0, 0) of a new one", new StrawMen().drop(0, 0), false);
    }

    private static void going() {
        Doc.says("Promise 14", "So many NIGHTS (0 .. 200) go by: which one it is;");
        StrawMen x = Check.told(ONE + "damp 100;");
        Check.due("go(0)", x.go(0), 0);
        Check.due("FULL behind none", x.straw(0, 1), 50);
        Check.due("go(1)", x.go(1), 1);
        Check.due("FULL behind one", x.straw(0, 1), 49);
        Check.due("go(7)", x.go(7), 8);
        Check.due("FULL behind eight", x.straw(0, 1), 42);
        Check.due("go(200)", x.go(200), 208);
        Check.due("in the SHED then", x.straw(0, 2), 1);
    }

    private static void notGoing() {
        Doc.says("Promise 14", "NONE, and none does: no such number, behind 9000.");
        StrawMen x = Check.told(ONE + "damp 100;");
        for (int n : new int[] {-1, -200, 201, 202, 9000, 9001, Integer.MAX_VALUE, Integer.MIN_VALUE}) {
            Check.due("go(" + n + ")", x.go(n), Check.NONE);
            Check.due("NIGHT behind go(" + n + ")", x.count(6), 0);
            Check.due("FULL behind go(" + n + ")", x.straw(0, 1), 50);
        }
        for (int i = 1; i <= 44; i++) {
            Check.due("go(200) " + i, x.go(200), 200 * i);
        }
        Check.due("go(199)", x.go(199), 8999);
        Check.due("go(2) behind 9000", x.go(2), Check.NONE);
        Check.due("go(200) behind 9000", x.go(200), Check.NONE);
        Check.due("none does", x.count(6), 8999);
        Check.due("go(1)", x.go(1), 9000);
        Check.due("go(1) behind 9000", x.go(1), Check.NONE);
        Check.due("go(0) on 9000", x.go(0), 9000);
        Check.due("go(-1) on 9000", x.go(-1), Check.NONE);
        Check.due("none does, too", x.count(6), 9000);
        StrawMen whole = new StrawMen();
        for (int i = 1; i <= 45; i++) {
            whole.go(200);
        }
        Check.due("45 times 200", whole.count(6), 9000);
        Check.due("one more", whole.go(1), Check.NONE);
    }
}
