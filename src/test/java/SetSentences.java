/** Sentences on sets of claims: the third part of 'Terms', promises 17 to 24. */
final class SetSentences {
    private static final String EIGHT = "claim a 10 0;claim b 20 0;claim c 30 0;claim d 40 0;"
        + "claim e 50 0;claim f 60 0;claim g 70 0;claim h 80 0;";

    private SetSentences() {
    }

    static void all() {
        calm();
        stands();
        defends();
        sets();
        noSets();
        standingOnes();
        standing();
        noStanding();
        stand();
        notSoMany();
        belowNought();
        ground();
        largest();
        replies();
        whoWins();
        noReplies();
        weaker();
        noneWeaker();
        notWeaker();
        drops();
        dropFor();
        notByTwo();
        noDrop();
    }

    /** A text of eight claims, a to h, with these contra, such as "ab bc". */
    private static StrawMen quarrel(String contras) {
        StringBuilder text = new StringBuilder(EIGHT);
        for (String two : contras.split(" ")) {
            if (!two.isEmpty()) {
                text.append("contra ").append(two.charAt(0)).append(' ').append(two.charAt(1)).append(';');
            }
        }
        return Check.told(text.toString());
    }

    private static int bits(String claims) {
        int bits = 0;
        for (char claim : claims.toCharArray()) {
            bits |= 1 << claim - 'a';
        }
        return bits;
    }

    private static void calm() {
        Doc.says("Terms 3", "A SET of CLAIMS (nothing is one, too) is CALM, if none of it is AGAINST one of it.");
        StrawMen x = quarrel("ab bc hg");
        String[] sets = {"", "a", "ab", "ac", "bc", "abc", "gh", "h", "acdefg", "acdefgh", "abcdefgh"};
        int[] due = {1, 1, 0, 1, 0, 0, 0, 1, 1, 0, 0};
        for (int i = 0; i < sets.length; i++) {
            Check.due("CALM '" + sets[i] + "'", x.set(bits(sets[i]), 0), due[i]);
        }
        Check.due("nothing, of a new one", new StrawMen().set(0, 0), 1);
    }

    private static void stands() {
        Doc.says("Terms 3", "It STANDS, if it is CALM and each CLAIM that isn't of it has one of it AGAINST it.");
        StrawMen x = Check.told("claim a 1 1;claim b 1 1;claim c 1 1;contra a b;contra b a;contra b c;");
        int[] due = {0, 0, 1, 0, 0, 1, 0, 0};
        for (int set = 0; set < 8; set++) {
            Check.due("STANDS " + set, x.set(set, 1), due[set]);
        }
        Check.due("nothing, of a new one", new StrawMen().set(0, 1), 1);
        Check.due("all, if none is AGAINST any", quarrel("").set(255, 1), 1);
        Check.due("all but one, if none is AGAINST any", quarrel("").set(127, 1), 0);
        Check.due("not CALM, though none is left", quarrel("ab").set(255, 1), 0);
    }

    private static void defends() {
        Doc.says("Terms 3", "It DEFENDS itself, if it is CALM and each CLAIM AGAINST one of it has one of it AGAINST it.");
        StrawMen x = Check.told("claim a 1 1;claim b 1 1;claim c 1 1;contra a b;contra b a;contra b c;");
        int[] due = {1, 1, 1, 0, 0, 1, 0, 0};
        for (int set = 0; set < 8; set++) {
            Check.due("DEFENDS itself " + set, x.set(set, 2), due[set]);
        }
        Check.due("nothing, of a new one", new StrawMen().set(0, 2), 1);
        Check.due("not CALM, though each has one AGAINST it", quarrel("ab ba").set(bits("ab"), 2), 0);
        Check.due("by another one of it", quarrel("ab bh").set(bits("ah"), 2), 1);
        Check.due("not by one outside of it", quarrel("ab bh").set(bits("h"), 2), 0);
        Check.due("the first of two isn't defended", quarrel("ca db bd").set(bits("ab"), 2), 0);
        Check.due("the second of two isn't defended", quarrel("ca ac db").set(bits("ab"), 2), 0);
        Check.due("both of two are defended", quarrel("ca ac db bd").set(bits("ab"), 2), 1);
    }

    private static void sets() {
        Doc.says("Promise 17", "Of a SET of CLAIMS (bits), what 0 whether it is CALM, 1 STANDS, 2 DEFENDS itself (1, 0).");
        StrawMen x = Check.told(Check.FIVE_CLAIMS);
        int[][] due = {{0, 1, 0, 1}, {1, 1, 0, 1}, {3, 0, 0, 0}, {10, 1, 1, 1}, {21, 1, 1, 1}, {16, 1, 0, 0}, {8, 1, 0, 0},
            {31, 0, 0, 0}};
        for (int[] row : due) {
            for (int what = 0; what < 3; what++) {
                Check.due("set(" + row[0] + ", " + what + ")", x.set(row[0], what), row[what + 1]);
            }
        }
    }

    private static void noSets() {
        Doc.says("Promise 17", "NONE: no such ones.");
        StrawMen x = Check.told(Check.FIVE_CLAIMS);
        for (int what = 0; what < 3; what++) {
            for (int claims : new int[] {32, 33, 64, 256, 287, -1, -32, Integer.MAX_VALUE, Integer.MIN_VALUE}) {
                Check.due("set(" + claims + ", " + what + ")", x.set(claims, what), Check.NONE);
            }
            Check.due("set(256, " + what + ") of eight", quarrel("").set(256, what), Check.NONE);
            Check.due("set(1, " + what + ") of a new one", new StrawMen().set(1, what), Check.NONE);
        }
        for (int what : Check.notOf(3)) {
            Check.due("set(0, " + what + ")", x.set(0, what), Check.NONE);
        }
    }

    private static void standingOnes() {
        Doc.says("Terms 3", "STANDING: how many SETS STAND, the k-th by their bits as a number, CLAIMS of all of them, of any.");
        // Each pair is one or the other way: four of them make 16 SETS, by their bits.
        StrawMen x = quarrel("ab ba cd dc ef fe gh hg");
        Check.due("how many", x.standing(0), 16);
        int k = 0;
        for (int set = 0; set < 256; set++) {
            boolean stands = true;
            for (int pair = 0; pair < 8; pair += 2) {
                stands &= (set >> pair & 3) == 1 || (set >> pair & 3) == 2;
            }
            if (stands) {
                Check.due("the " + k + "-th", x.stand(k), set);
                k++;
            }
        }
        Check.due("of all", x.standing(1), 0);
        Check.due("of any", x.standing(2), 255);
        StrawMen y = quarrel("ab ba ac bc cd");
        Check.due("how many, c is out", y.standing(0), 2);
        Check.due("of all, c is out", y.standing(1), bits("defgh"));
        Check.due("of any, c is out", y.standing(2), bits("abdefgh"));
    }

    private static void standing() {
        Doc.says("Promise 18", "STANDING, what 0: how many, 1: CLAIMS (bits) of all (0, if none STANDS), 2: of any (0, if none STANDS or"
            + " nothing does).");
        StrawMen odd = quarrel("ab bc ca");
        for (int what = 0; what < 3; what++) {
            Check.due("none STANDS, standing(" + what + ")", odd.standing(what), 0);
            Check.due("nothing STANDS, standing(" + what + ")", new StrawMen().standing(what), what == 0 ? 1 : 0);
            Check.due("all STAND, standing(" + what + ")", quarrel("").standing(what), what == 0 ? 1 : 255);
        }
        StrawMen x = Check.told(Check.FIVE_CLAIMS);
        Check.due("how many", x.standing(0), 2);
        Check.due("of all", x.standing(1), 0);
        Check.due("of any", x.standing(2), 31);
    }

    private static void noStanding() {
        Doc.says("Promise 18", "NONE for another what.");
        StrawMen x = Check.told(Check.FIVE_CLAIMS);
        for (int what : Check.notOf(3)) {
            Check.due("standing(" + what + ")", x.standing(what), Check.NONE);
            Check.due("standing(" + what + ") of a new one", new StrawMen().standing(what), Check.NONE);
        }
    }

    private static void stand() {
        Doc.says("Promise 19", "The k-th SET that STANDS, from 0 on (bits);");
        StrawMen x = Check.told(Check.FIVE_CLAIMS);
        Check.due("stand(0)", x.stand(0), 10);
        Check.due("stand(1)", x.stand(1), 21);
        Check.due("nothing", new StrawMen().stand(0), 0);
        Check.due("all", quarrel("").stand(0), 255);
    }

    private static void notSoMany() {
        Doc.says("Promise 19", "-2: there are no so many;");
        StrawMen x = Check.told(Check.FIVE_CLAIMS);
        for (int k : new int[] {2, 3, 32, 256, Integer.MAX_VALUE}) {
            Check.due("stand(" + k + ")", x.stand(k), -2);
        }
        Check.due("stand(0), none STANDS", quarrel("ab bc ca").stand(0), -2);
        Check.due("stand(1) of a new one", new StrawMen().stand(1), -2);
    }

    private static void belowNought() {
        Doc.says("Promise 19", "NONE: k is below 0.");
        for (int k : new int[] {-1, -2, Integer.MIN_VALUE}) {
            Check.due("stand(" + k + ")", Check.told(Check.FIVE_CLAIMS).stand(k), Check.NONE);
            Check.due("stand(" + k + "), none STANDS", quarrel("ab bc ca").stand(k), Check.NONE);
        }
    }

    private static void ground() {
        Doc.says("Terms 3", "GROUND: from nothing on, again and again, each CLAIM of which all that are AGAINST it have one of these AGAINST"
            + " them.");
        String[] quarrels = {"", "ab bc cd de ef fg gh", "hg gf fe ed dc cb ba", "ab ba", "ab bc cd da", "ab bc cd da ea",
            "ab bc ca", "ab bc ca hc", "ba ca db", "ba ca db dc"};
        String[] due = {"abcdefgh", "aceg", "hfdb", "cdefgh", "efgh", "bdefgh", "defgh", "adefgh", "cdefgh", "adefgh"};
        for (int i = 0; i < quarrels.length; i++) {
            Check.due("GROUND of '" + quarrels[i] + "'", quarrel(quarrels[i]).ground(), bits(due[i]));
        }
        Doc.says("Promise 20", "GROUND (bits).");
        Check.due("of five", Check.told(Check.FIVE_CLAIMS).ground(), 0);
        Check.due("of a new one", new StrawMen().ground(), 0);
        Check.due("of one", Check.told("claim a 0 0;").ground(), 1);
        Check.due("of all eight", quarrel("").ground(), 255);
        StrawMen x = quarrel("ba cb");
        x.dropFor(1, 0);
        Check.due("as it is, whatever was asked", x.ground(), bits("acdefgh"));
    }

    private static void largest() {
        Doc.says("Terms 3", "LARGEST: the SET of most CLAIMS that DEFENDS itself, of several the least.");
        Check.due("two of one each", Check.told("claim a 1 1;claim b 1 1;contra a b;contra b a;").largest(), 1);
        Check.due("the least of several", quarrel("ab ba cd dc").largest(), bits("acefgh"));
        Check.due("the most, though it isn't the least", Check.told("claim a 1 1;claim b 1 1;claim c 1 1;contra a b;contra b a;"
            + "contra a c;contra c a;").largest(), 6);
        Check.due("nothing", Check.told("claim a 1 1;claim b 1 1;claim c 1 1;contra a b;contra b c;contra c a;").largest(), 0);
        Check.due("it DEFENDS itself, though none STANDS", quarrel("ab bc ca").largest(), bits("defgh"));
        Check.due("it DEFENDS itself, not the least that is CALM alone", quarrel("ba").largest(), bits("bcdefgh"));
        Doc.says("Promise 21", "LARGEST (bits).");
        Check.due("of five", Check.told(Check.FIVE_CLAIMS).largest(), 21);
        Check.due("of a new one", new StrawMen().largest(), 0);
        Check.due("of all eight", quarrel("").largest(), 255);
    }

    private static void replies() {
        Doc.says("Terms 3", "REPLIES to a CLAIM: two by turns name a CLAIM that wasn't named yet, the one named first being that one (it"
            + " can't be named again), each the next one one that is AGAINST the one named last; who can't, loses; the first one to"
            + " reply is the other one than who named it.");
        Check.due("none can reply to a", quarrel("ab").replies(0, 0), 0);
        Check.due("a replies to b, none to a", quarrel("ab").replies(1, 0), 1);
        Check.due("it can't be named again", quarrel("ab ba").replies(0, 0), 1);
        Check.due("it can't be named again, b", quarrel("ab ba").replies(1, 0), 1);
        Check.due("it can't be named again, h", quarrel("gh hg").replies(7, 0), 1);
        Check.due("nor another one", quarrel("ba cb bc").replies(0, 0), 0);
        Check.due("three round", quarrel("ab bc ca").replies(0, 0), 0);
        Check.due("four round", quarrel("ab bc cd da").replies(0, 0), 1);
        // All eight are named: h to a, then g to h and so on; the seventh reply is the last one.
        Check.due("all eight are named", quarrel("ab bc cd de ef fg gh ha").replies(0, 0), 1);
        Check.due("seven are named", quarrel("ab bc cd de ef fg ga").replies(0, 0), 0);
        Check.due("eight in a row, the last one", quarrel("ab bc cd de ef fg gh").replies(7, 0), 1);
        Check.due("eight in a row, the last but one", quarrel("ab bc cd de ef fg gh").replies(6, 0), 0);
    }

    private static void whoWins() {
        Doc.says("Promise 22", "REPLIES, what 0: who wins (0: who named it, 1: the other one), 1: the first reply by which the other one"
            + " wins, the first by numbers (-2: he can't win).");
        StrawMen x = quarrel("ba cb db ed hb");
        Check.due("who wins, a", x.replies(0, 0), 0);
        Check.due("he can't win, a", x.replies(0, 1), -2);
        Check.due("who wins, b", x.replies(1, 0), 1);
        Check.due("the first of c, h (d isn't one)", x.replies(1, 1), 2);
        Check.due("none replies to e", x.replies(4, 0), 0);
        Check.due("none replies to e, which", x.replies(4, 1), -2);
        StrawMen y = quarrel("ba cb da ha");
        Check.due("b loses, so the first that wins is d", y.replies(0, 1), 3);
        Check.due("the eighth", quarrel("ba cb ha").replies(0, 1), 7);
        Check.due("the first by number", quarrel("ah bh").replies(7, 1), 0);
    }

    private static void noReplies() {
        Doc.says("Promise 22", "NONE: no such ones.");
        StrawMen x = Check.told(Check.FIVE_CLAIMS);
        for (int claim : Check.notOf(5)) {
            Check.due("replies(" + claim + ", 0)", x.replies(claim, 0), Check.NONE);
            Check.due("replies(" + claim + ", 1)", x.replies(claim, 1), Check.NONE);
        }
        for (int what : Check.notOf(2)) {
            Check.due("replies(0, " + what + ")", x.replies(0, what), Check.NONE);
        }
        Check.due("replies(0, 0) of a new one", new StrawMen().replies(0, 0), Check.NONE);
    }

    private static void weaker() {
        Doc.says("Terms 3", "WEAKER of a CLAIM: of the others that are AGAINST all that it is AGAINST (all others, if it is AGAINST none),"
            + " the one of least WEIGHT (more than its own or not), the first of several.");
        StrawMen x = quarrel("ah bh ch cg dg dh eg eh");
        Check.due("a: b is the lightest, more than its own", x.weaker(0), 1);
        Check.due("b: a", x.weaker(1), 0);
        Check.due("c: d, as a and b aren't AGAINST g", x.weaker(2), 3);
        Check.due("e: c is lighter than d", x.weaker(4), 2);
        Check.due("h is AGAINST none: all others", x.weaker(7), 0);
        StrawMen same = Check.told("claim a 9 0;claim b 5 0;claim c 5 0;claim d 5 9;");
        Check.due("the first of several", same.weaker(0), 1);
        Check.due("the first of the others", same.weaker(1), 2);
        Check.due("the first of several, the last one's", same.weaker(3), 1);
        Check.due("WEIGHT 0 and 99", Check.told("claim a 0 0;claim b 99 0;").weaker(0), 1);
        Doc.says("Promise 23", "WEAKER;");
        Check.due("weaker(1) of five: none but b is AGAINST a and c", Check.told(Check.FIVE_CLAIMS).weaker(1), -2);
        Check.due("weaker(4) of five: all others", Check.told(Check.FIVE_CLAIMS).weaker(4), 2);
        Check.due("weaker(7) of eight", quarrel("").weaker(7), 0);
    }

    private static void noneWeaker() {
        Doc.says("Promise 23", "-2: there is none;");
        Check.due("none else is AGAINST b", quarrel("ab").weaker(0), -2);
        Check.due("none else is AGAINST both", quarrel("ab ac db ec").weaker(0), -2);
        Check.due("there are no others", Check.told("claim a 9 0;").weaker(0), -2);
        Check.due("two AGAINST each other", Check.told("claim a 9 0;claim b 9 0;contra a b;contra b a;").weaker(0), -2);
    }

    private static void notWeaker() {
        Doc.says("Promise 23", "NONE: no such CLAIM.");
        StrawMen x = Check.told(Check.FIVE_CLAIMS);
        for (int claim : Check.notOf(5)) {
            Check.due("weaker(" + claim + ")", x.weaker(claim), Check.NONE);
        }
        Check.due("weaker(0) of a new one", new StrawMen().weaker(0), Check.NONE);
        Check.due("weaker(8) of eight", quarrel("").weaker(8), Check.NONE);
    }

    private static void drop(String contras, char of, int many, int first, int second) {
        StrawMen x = quarrel(contras);
        String what = "'" + contras + "', for " + of + ", ";
        Check.due(what + "how many", x.dropFor(of - 'a', 0), many);
        Check.due(what + "the first", x.dropFor(of - 'a', 1), first);
        Check.due(what + "the second", x.dropFor(of - 'a', 2), second);
    }

    private static void drops() {
        Doc.says("Terms 3", "DROP for a CLAIM: the fewest contra, 2 at most, of several the first by the first one's number, then the second"
            + " one's, without which it is of the GROUND.");
        drop("ba", 'b', 0, -2, -2);
        drop("ba", 'a', 1, 0, -2);
        drop("cd ba", 'a', 1, 1, -2);
        drop("ba ca", 'a', 2, 0, 1);
        drop("ba cd ca", 'a', 2, 0, 2);
        drop("ba ca da", 'a', -2, -2, -2);
        // a is out by b, which d would put out, were d not put out by e: the first that helps is what b does itself.
        drop("ba db ed", 'a', 1, 0, -2);
        drop("ed db ba", 'a', 1, 0, -2);
        // d puts out both that stand against a, once e is kept off d: one, and not two.
        drop("ba ca db dc ed", 'a', 1, 4, -2);
        // Without what keeps c off, d is put out, but c stands against a as well; so it is d's own contra that goes.
        drop("bc cd da ca", 'a', 1, 2, -2);
        // Three against a: without two of them, the third one is put out by e.
        drop("ba ca da eb", 'a', 2, 1, 2);
        drop("eb da ca ba", 'a', 2, 1, 2);
        // What stands against a and is put out by a alone must go as well.
        drop("ba ca ab ac", 'a', 2, 0, 1);
        drop("gh ba hg ca gf ab", 'a', 2, 1, 3);
        // Of b, e's contra or its own may go, so of several the first by the first one's, then by the second one's number.
        drop("ed ba db ca", 'a', 2, 0, 3);
        drop("ca ed db ba", 'a', 2, 0, 1);
    }

    private static void dropFor() {
        Doc.says("Promise 24", "DROP, what 0: how many (0: it is of the GROUND as it is), 1, 2: the number of the first, second contra (-2:"
            + " not so many).");
        drop("", 'h', 0, -2, -2);
        drop("ba", 'a', 1, 0, -2);
        drop("ha ga", 'a', 2, 0, 1);
        // The last two of sixteen.
        drop("bc bd be cb cd ce db dc de eb ec ed bf cf ha ga", 'a', 2, 14, 15);
        drop("bc bd be cb cd ce db dc de eb ec ed bf cf df ha", 'a', 1, 15, -2);
        StrawMen x = quarrel("ba ca");
        Check.due("asked of another one ahead", x.dropFor(0, 2), 1);
        Check.due("it is of the GROUND", x.dropFor(1, 1), -2);
        Check.due("it is of the GROUND, the second", x.dropFor(1, 2), -2);
        Check.due("how many contra there are yet", x.count(1), 2);
    }

    private static void notByTwo() {
        Doc.says("Promise 24", "-2: not by 2;");
        drop("ba ca da", 'a', -2, -2, -2);
        drop("ba ca da ea fa ga ha", 'a', -2, -2, -2);
    }

    private static void noDrop() {
        Doc.says("Promise 24", "NONE: no such ones.");
        StrawMen x = Check.told(Check.FIVE_CLAIMS);
        for (int claim : Check.notOf(5)) {
            for (int what = 0; what < 3; what++) {
                Check.due("dropFor(" + claim + ", " + what + ")", x.dropFor(claim, what), Check.NONE);
            }
        }
        for (int what : Check.notOf(3)) {
            Check.due("dropFor(0, " + what + ")", x.dropFor(0, what), Check.NONE);
        }
        Check.due("dropFor(0, 0) of a new one", new StrawMen().dropFor(0, 0), Check.NONE);
    }
}
