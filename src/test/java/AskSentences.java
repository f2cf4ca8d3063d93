import java.util.NoSuchElementException;

/** Sentences on what one asks of claims, straw, members and laws: promises 6 to 10. */
final class AskSentences {
    private static final String FIVE = Check.FIVE_CLAIMS;

    private AskSentences() {
    }

    static void all() {
        claims();
        noClaim();
        noWhat();
        straws();
        noStraw();
        members();
        noMember();
        forces();
        noForce();
        laws();
        noLaw();
    }

    /** What claim throws: 1 IndexOutOfBoundsException, 2 NoSuchElementException, 0 nothing; of these classes themselves. */
    private static int thrown(StrawMen x, int claim, int what) {
        try {
            x.claim(claim, what);
            return 0;
        } catch (IndexOutOfBoundsException e) {
            return e.getClass() == IndexOutOfBoundsException.class ? 1 : -1;
        } catch (NoSuchElementException e) {
            return e.getClass() == NoSuchElementException.class ? 2 : -2;
        }
    }

    private static void claims() {
        Doc.says("Promise 6", "Of a CLAIM, what 0 WEIGHT, 1 TEMPER, 2 CLAIMS (bits) it is AGAINST, 3 CLAIMS (bits) AGAINST it.");
        StrawMen x = Check.told(FIVE);
        int[][] due = {{40, 1, 2, 2}, {60, 2, 5, 1}, {30, 0, 8, 2}, {50, 3, 16, 4}, {20, 5, 0, 8}};
        for (int claim = 0; claim < 5; claim++) {
            for (int what = 0; what < 4; what++) {
                Check.due("claim(" + claim + ", " + what + ")", x.claim(claim, what), due[claim][what]);
            }
        }
        StrawMen eight = Check.told("claim a 0 0;claim b 1 0;claim c 2 0;claim d 3 0;claim e 4 0;claim f 5 0;claim g 6 0;"
            + "claim h 99 9;contra h a;contra a h;");
        Check.due("the eighth's WEIGHT", eight.claim(7, 0), 99);
        Check.due("the eighth's TEMPER", eight.claim(7, 1), 9);
        Check.due("the eighth AGAINST the first", eight.claim(7, 2), 1);
        Check.due("AGAINST the first", eight.claim(0, 3), 128);
    }

    private static void noClaim() {
        Doc.says("Promise 6", "IndexOutOfBoundsException: no such CLAIM.");
        for (StrawMen x : new StrawMen[] {Check.told(FIVE), new StrawMen()}) {
            int size = x.count(0);
            for (int claim : Check.notOf(size)) {
                for (int what = 0; what < 4; what++) {
                    Check.due("claim(" + claim + ", " + what + ") of " + size, thrown(x, claim, what), 1);
                }
                Check.due("claim(" + claim + ", 4) of " + size, thrown(x, claim, 4), 1);
                Check.due("claim(" + claim + ", -1) of " + size, thrown(x, claim, -1), 1);
            }
        }
        StrawMen x = Check.told(FIVE);
        Check.tell(x, "claim a 1 1;");
        Check.due("claim(1, 0) of a text told over one of five", thrown(x, 1, 0), 1);
        Check.due("claim(0, 0) of it", thrown(x, 0, 0), 0);
    }

    private static void noWhat() {
        Doc.says("Promise 6", "NoSuchElementException: no such what.");
        StrawMen x = Check.told(FIVE);
        for (int what : Check.notOf(4)) {
            Check.due("claim(0, " + what + ")", thrown(x, 0, what), 2);
            Check.due("claim(4, " + what + ")", thrown(x, 4, what), 2);
        }
        Check.due("claim(0, 3)", thrown(x, 0, 3), 0);
    }

    private static void straws() {
        Doc.says("Promise 7", "Of a STRAW now, what 0 its CLAIM, 1 FULL, 2 whether in the SHED (1, 0).");
        StrawMen x = Check.told(FIVE);
        int[][] first = {{1, 50, 0}, {3, 4, 0}};
        int[][] then = {{1, 40, 0}, {3, 0, 1}};
        for (int straw = 0; straw < 2; straw++) {
            for (int what = 0; what < 3; what++) {
                Check.due("straw(" + straw + ", " + what + ")", x.straw(straw, what), first[straw][what]);
            }
        }
        x.go(2);
        for (int straw = 0; straw < 2; straw++) {
            for (int what = 0; what < 3; what++) {
                Check.due("straw(" + straw + ", " + what + ") then", x.straw(straw, what), then[straw][what]);
            }
        }
    }

    private static void noStraw() {
        Doc.says("Promise 7", "NONE: no such ones.");
        StrawMen x = Check.told(FIVE);
        for (int what = 0; what < 3; what++) {
            for (int straw : Check.notOf(2)) {
                Check.due("straw(" + straw + ", " + what + ")", x.straw(straw, what), Check.NONE);
            }
            Check.due("of a new one, straw(0, " + what + ")", new StrawMen().straw(0, what), Check.NONE);
        }
        for (int what : Check.notOf(3)) {
            Check.due("straw(1, " + what + ")", x.straw(1, what), Check.NONE);
        }
    }

    private static void members() {
        Doc.says("Promise 8", "Of a MEMBER now, what 0 CLAIMS (bits) he HOLDS, 1 how often he WON, 2 was BEATEN.");
        StrawMen x = Check.told(FIVE);
        Check.due("member(0, 0)", x.member(0, 0), 5);
        Check.due("member(1, 0)", x.member(1, 0), 8);
        x.go(2);
        x.debate(1, 0);
        x.take(1, 4);
        int[][] then = {{5, 2, 0}, {24, 0, 1}};
        for (int member = 0; member < 2; member++) {
            for (int what = 0; what < 3; what++) {
                Check.due("member(" + member + ", " + what + ") then", x.member(member, what), then[member][what]);
            }
        }
    }

    private static void noMember() {
        Doc.says("Promise 8", "NONE: no such ones.");
        StrawMen x = Check.told(FIVE);
        for (int what = 0; what < 3; what++) {
            for (int member : Check.notOf(2)) {
                Check.due("member(" + member + ", " + what + ")", x.member(member, what), Check.NONE);
            }
            Check.due("of a new one, member(0, " + what + ")", new StrawMen().member(0, what), Check.NONE);
        }
        for (int what : Check.notOf(3)) {
            Check.due("member(1, " + what + ")", x.member(1, what), Check.NONE);
        }
    }

    private static void forces() {
        Doc.says("Promise 9", "FORCE of a MEMBER with a CLAIM now;");
        StrawMen x = Check.told(FIVE);
        int[][] due = {{0, 40, 0, 30, 0}, {0, 0, 0, 0, 50}};
        for (int member = 0; member < 2; member++) {
            for (int claim = 0; claim < 5; claim++) {
                Check.due("force(" + member + ", " + claim + ")", x.force(member, claim), due[member][claim]);
            }
        }
        x.take(1, 1);
        Check.due("force(1, 0) by b, which he took", x.force(1, 0), 60);
        x.drop(0, 0);
        Check.due("force(0, 1) without a", x.force(0, 1), 0);
    }

    private static void noForce() {
        Doc.says("Promise 9", "NONE: no such ones.");
        StrawMen x = Check.told(FIVE);
        for (int member : Check.notOf(2)) {
            Check.due("force(" + member + ", 1)", x.force(member, 1), Check.NONE);
        }
        for (int claim : Check.notOf(5)) {
            Check.due("force(0, " + claim + ")", x.force(0, claim), Check.NONE);
        }
        Check.due("of a new one", new StrawMen().force(0, 0), Check.NONE);
    }

    private static void laws() {
        Doc.says("Promise 10", "A law's E now of a STRAW with a MEMBER (what 0 lean, 1 wear, 2 turn).");
        StrawMen x = Check.told(FIVE + "law turn 0 - night;law wear force - 1000;law lean full * 100 + weight + 9000;");
        Check.due("law(0, 0, 0)", x.law(0, 0, 0), 14060);
        Check.due("law(0, 1, 0)", x.law(0, 1, 0), 9450);
        Check.due("law(1, 0, 0), as it is", x.law(1, 0, 0), -960);
        Check.due("law(1, 1, 0)", x.law(1, 1, 0), -970);
        Check.due("law(1, 0, 1)", x.law(1, 0, 1), -1000);
        Check.due("law(2, 0, 0)", x.law(2, 0, 0), 0);
        x.go(2);
        Check.due("law(2, 0, 0) now", x.law(2, 0, 0), -2);
        Check.due("law(1, 1, 1) now", x.law(1, 1, 1), -1000);
        Check.due("asking wears nothing", x.straw(0, 1), 50);
    }

    private static void noLaw() {
        Doc.says("Promise 10", "Long.MIN_VALUE: an ERROR, no such law, no such ones.");
        StrawMen x = Check.told(FIVE + "law lean 1 / night;law turn 7;");
        Check.due("an ERROR", x.law(0, 0, 0), Long.MIN_VALUE);
        Check.due("a law that isn't told", x.law(1, 0, 0), Long.MIN_VALUE);
        Check.due("one that is", x.law(2, 1, 1), 7);
        for (int what : Check.notOf(3)) {
            Check.due("law(" + what + ", 0, 0)", x.law(what, 0, 0), Long.MIN_VALUE);
        }
        for (int none : Check.notOf(2)) {
            Check.due("law(2, " + none + ", 0)", x.law(2, none, 0), Long.MIN_VALUE);
            Check.due("law(2, 0, " + none + ")", x.law(2, 0, none), Long.MIN_VALUE);
        }
        x.go(1);
        Check.due("no ERROR on NIGHT 1", x.law(0, 0, 0), 1);
        Check.tell(x, FIVE);
        Check.due("a law that was told by the TEXT of earlier", x.law(2, 0, 0), Long.MIN_VALUE);
    }
}
