/** Promises 17 to 24: sets of claims, what stands, the ground, replies, weaker forms, what to drop. */
public final class SetsTest {
    private static final String EIGHT = "claim a 10 0;claim b 20 0;claim c 30 0;claim d 40 0;"
        + "claim e 50 0;claim f 60 0;claim g 70 0;claim h 80 0;";

    public static void main(String[] args) {
        sets();
        standing();
        grounds();
        largest();
        replies();
        weaker();
        drops();
        byHand();
        Check.end("SetsTest");
    }

    /** A text of eight claims with these contra, such as "ab bc". */
    private static StrawMen quarrel(String contras) {
        StringBuilder text = new StringBuilder(EIGHT);
        for (String two : contras.split(" ")) {
            if (!two.isEmpty()) {
                text.append("contra ").append(two.charAt(0)).append(' ').append(two.charAt(1)).append(';');
            }
        }
        return Check.told(text.toString());
    }

    private static void sets() {
        StrawMen x = Check.told(Check.FIVE_CLAIMS);
        int[][] due = {{0, 1, 0, 1}, {1, 1, 0, 1}, {3, 0, 0, 0}, {10, 1, 1, 1}, {21, 1, 1, 1}, {16, 1, 0, 0}, {8, 1, 0, 0}};
        for (int[] row : due) {
            for (int what = 0; what < 3; what++) {
                Check.due("set(" + row[0] + ", " + what + ")", x.set(row[0], what), row[what + 1]);
            }
        }
        Check.due("set(31, 0)", x.set(31, 0), 0);
        Check.due("set(32, 0)", x.set(32, 0), Check.NONE);
        Check.due("set(-1, 0)", x.set(-1, 0), Check.NONE);
        Check.due("set(0, 3)", x.set(0, 3), Check.NONE);
        Check.due("set(0, -1)", x.set(0, -1), Check.NONE);
        Check.due("set of all eight", quarrel("").set(255, 1), 1);
        Check.due("set(256, 0)", quarrel("").set(256, 0), Check.NONE);
        Check.due("one way, calm is both ways", quarrel("ba").set(3, 0), 0);
    }

    private static void standing() {
        StrawMen odd = Check.told("claim a 1 1;claim b 1 1;claim c 1 1;contra a b;contra b c;contra c a;");
        Check.due("none stands", odd.standing(0), 0);
        Check.due("of all", odd.standing(1), 0);
        Check.due("of any", odd.standing(2), 0);
        Check.due("stand(0)", odd.stand(0), -2);
        StrawMen x = quarrel("ab ba cd dc ae");
        Check.due("how many", x.standing(0), 4);
        Check.due("of all", x.standing(1), 32 + 64 + 128);
        Check.due("of any", x.standing(2), 255);
        int[] due = {1 + 4, 2 + 4 + 16, 1 + 8, 2 + 8 + 16};
        int[] sorted = due.clone();
        for (int i = 0; i < 4; i++) {
            sorted[i] += 32 + 64 + 128;
        }
        java.util.Arrays.sort(sorted);
        for (int k = 0; k < 4; k++) {
            Check.due("stand(" + k + ")", x.stand(k), sorted[k]);
        }
        Check.due("stand(4)", x.stand(4), -2);
        Check.due("stand(2147483647)", x.stand(2147483647), -2);
        Check.due("stand(-1)", x.stand(-1), Check.NONE);
        Check.due("standing(3)", x.standing(3), Check.NONE);
        Check.due("standing(-1)", x.standing(-1), Check.NONE);
        Check.due("nothing stands alone", new StrawMen().standing(0), 1);
        StrawMen all = quarrel("");
        Check.due("all stand: how many", all.standing(0), 1);
        Check.due("all stand: of all", all.standing(1), 255);
        Check.due("all stand: of any", all.standing(2), 255);
        Check.due("all stand: which", all.stand(0), 255);
        Check.due("all stand: the largest", all.largest(), 255);
    }

    private static void grounds() {
        Check.due("a row", quarrel("ab bc cd de ef fg gh").ground(), 1 + 4 + 16 + 64);
        Check.due("a round", quarrel("ab bc cd da").ground(), 16 + 32 + 64 + 128);
        Check.due("a round that is hit", quarrel("ab bc cd da ea").ground(), 2 + 8 + 16 + 32 + 64 + 128);
        Check.due("all", quarrel("").ground(), 255);
        Check.due("two against each other", Check.told("claim a 1 1;claim b 1 1;contra a b;contra b a;").ground(), 0);
    }

    private static void largest() {
        Check.due("largest of five", Check.told(Check.FIVE_CLAIMS).largest(), 21);
        StrawMen two = Check.told("claim a 1 1;claim b 1 1;contra a b;contra b a;");
        Check.due("the least of several", two.largest(), 1);
        StrawMen odd = Check.told("claim a 1 1;claim b 1 1;claim c 1 1;contra a b;contra b c;contra c a;");
        Check.due("nothing", odd.largest(), 0);
        Check.due("of none", new StrawMen().largest(), 0);
    }

    private static void replies() {
        StrawMen x = quarrel("ba cb db ed");
        Check.due("none against it", x.replies(4, 0), 0);
        Check.due("none against it, which", x.replies(4, 1), -2);
        Check.due("b answers a, c answers b", x.replies(0, 0), 0);
        Check.due("he can't win", x.replies(0, 1), -2);
        Check.due("b", x.replies(1, 0), 1);
        Check.due("the first that wins", x.replies(1, 1), 2);
        StrawMen y = quarrel("ba cb ca da ed");
        Check.due("the first reply that wins isn't the first one", y.replies(0, 1), 2);
        Check.due("it can't be named again", quarrel("ab ba").replies(0, 0), 1);
        Check.due("replies(8, 0)", x.replies(8, 0), Check.NONE);
        Check.due("replies(-1, 0)", x.replies(-1, 0), Check.NONE);
        Check.due("replies(0, 2)", x.replies(0, 2), Check.NONE);
        Check.due("replies(0, -1)", x.replies(0, -1), Check.NONE);
    }

    private static void weaker() {
        StrawMen x = quarrel("ah bh ch cg dg dh eg eh");
        Check.due("a: of b to e the lightest", x.weaker(0), 1);
        Check.due("b: a is lighter", x.weaker(1), 0);
        Check.due("c: d is heavier", x.weaker(2), 3);
        Check.due("e: c is lighter than d", x.weaker(4), 2);
        Check.due("h is against none", x.weaker(7), 0);
        Check.due("there is none", quarrel("ab").weaker(0), -2);
        StrawMen same = Check.told("claim a 9 0;claim b 5 0;claim c 5 0;");
        Check.due("the first of several", same.weaker(0), 1);
        Check.due("not itself", same.weaker(1), 2);
        Check.due("alone", Check.told("claim a 9 0;").weaker(0), -2);
        Check.due("weaker(8)", x.weaker(8), Check.NONE);
        Check.due("weaker(-1)", x.weaker(-1), Check.NONE);
    }

    private static void drop(StrawMen x, int claim, int many, int first, int second) {
        Check.due("dropFor(" + claim + ", 0)", x.dropFor(claim, 0), many);
        Check.due("dropFor(" + claim + ", 1)", x.dropFor(claim, 1), first);
        Check.due("dropFor(" + claim + ", 2)", x.dropFor(claim, 2), second);
    }

    private static void drops() {
        StrawMen x = quarrel("ba ca da ab eb fb");
        drop(x, 4, 0, -2, -2);
        drop(x, 1, 2, 4, 5);
        drop(x, 0, 2, 1, 2);
        drop(x, 4, 0, -2, -2);
        StrawMen mixed = quarrel("ba ca ed");
        drop(mixed, 0, 2, 0, 1);
        drop(mixed, 3, 1, 2, -2);
        drop(quarrel("ba ca da ea"), 0, -2, -2, -2);
        drop(quarrel("ba cb dc ed"), 0, 0, -2, -2);
        drop(quarrel("ba cb dc ed"), 1, 1, 1, -2);
        drop(quarrel("ba ca"), 0, 2, 0, 1);
        Check.due("dropFor(8, 0)", x.dropFor(8, 0), Check.NONE);
        Check.due("dropFor(-1, 0)", x.dropFor(-1, 0), Check.NONE);
        Check.due("dropFor(0, 3)", x.dropFor(0, 3), Check.NONE);
        Check.due("dropFor(0, -1)", x.dropFor(0, -1), Check.NONE);
    }

    /** All that is asked of sets, asked by its plain words of many quarrels. */
    private static void byHand() {
        long number = 1;
        for (int round = 0; round < 60; round++) {
            boolean[][] against = new boolean[8][8];
            StringBuilder contras = new StringBuilder();
            for (int i = 0; i < 1 + round % 16; i++) {
                number = (number * 1103515245L + 12345L) % (1L << 31);
                int from = (int) (number / 65536 % 8);
                int to = (int) (number / 65536 / 8 % 8);
                if (from != to && !against[from][to]) {
                    against[from][to] = true;
                    contras.append((char) ('a' + from)).append((char) ('a' + to)).append(' ');
                }
            }
            StrawMen x = quarrel(contras.toString());
            // An object is asked 512 times at most.
            StrawMen[] asked = {quarrel(contras.toString()), quarrel(contras.toString()), quarrel(contras.toString())};
            int stand = 0;
            int best = 0;
            for (int set = 0; set < 256; set++) {
                boolean calm = isCalm(against, set);
                boolean stands = calm && answersAll(against, set, ~set);
                boolean defends = calm && answersAll(against, set, foes(against, set));
                Check.due("calm " + set + " of " + contras, asked[0].set(set, 0) == 1, calm);
                Check.due("stands " + set + " of " + contras, asked[1].set(set, 1) == 1, stands);
                Check.due("defends " + set + " of " + contras, asked[2].set(set, 2) == 1, defends);
                if (stands) {
                    Check.due("stand " + stand + " of " + contras, x.stand(stand), set);
                    stand++;
                }
                if (defends && Integer.bitCount(set) > Integer.bitCount(best)) {
                    best = set;
                }
            }
            Check.due("standing of " + contras, x.standing(0), stand);
            Check.due("largest of " + contras, x.largest(), best);
            for (int claim = 0; claim < 8; claim++) {
                boolean wins = otherWins(against, claim, 1 << claim);
                Check.due("replies to " + claim + " of " + contras, x.replies(claim, 0) == 1, wins);
                Check.due("ground of " + contras, (x.ground() >> claim & 1) == 1, x.dropFor(claim, 0) == 0);
            }
        }
    }

    private static boolean isCalm(boolean[][] against, int set) {
        for (int i = 0; i < 8; i++) {
            for (int j = 0; j < 8; j++) {
                if (against[i][j] && (set >> i & 1) == 1 && (set >> j & 1) == 1) {
                    return false;
                }
            }
        }
        return true;
    }

    private static int foes(boolean[][] against, int set) {
        int foes = 0;
        for (int i = 0; i < 8; i++) {
            for (int j = 0; j < 8; j++) {
                if (against[i][j] && (set >> j & 1) == 1) {
                    foes |= 1 << i;
                }
            }
        }
        return foes;
    }

    private static boolean answersAll(boolean[][] against, int set, int others) {
        for (int j = 0; j < 8; j++) {
            boolean answered = (others >> j & 1) == 0;
            for (int i = 0; i < 8; i++) {
                answered |= against[i][j] && (set >> i & 1) == 1;
            }
            if (!answered) {
                return false;
            }
        }
        return true;
    }

    private static boolean otherWins(boolean[][] against, int last, int named) {
        for (int i = 0; i < 8; i++) {
            if (against[i][last] && (named >> i & 1) == 0 && !otherWins(against, i, named | 1 << i)) {
                return true;
            }
        }
        return false;
    }
}
