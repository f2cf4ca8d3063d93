import java.util.NoSuchElementException;

/**
 * Who is such a one: texts with more claims than straw, more straw than members and so on, so that a number that is one of a
 * kind is none of another.
 */
final class NoSuchSentences {
    // How many claims, straw, members.
    private static final int[][] SHAPES = {{1, 2, 4}, {1, 4, 2}, {2, 1, 4}, {2, 4, 1}, {4, 1, 2}, {4, 2, 1}, {8, 5, 3}, {8, 3, 5},
        {6, 5, 5}, {1, 0, 3}, {3, 0, 1}, {3, 1, 0}};
    private static final int[] NUMBERS = {-1, 0, 1, 2, 3, 4, 5, 6, 7, 8, 9};

    private NoSuchSentences() {
    }

    static void all() {
        for (int[] shape : SHAPES) {
            claims(shape);
            strawsAndMembers(shape);
            pairs(shape);
            calls(shape);
            nights(shape);
            members(shape);
            matches(shape);
        }
    }

    private static StrawMen told(int[] shape) {
        StringBuilder text = new StringBuilder();
        for (int i = 0; i < shape[0]; i++) {
            text.append("claim ").append((char) ('a' + i)).append(" 9 0;");
        }
        for (int i = 0; i < shape[1]; i++) {
            text.append("straw ").append((char) ('p' + i)).append(" a 50;");
        }
        for (int i = 0; i < shape[2]; i++) {
            text.append("member ").append((char) ('v' + i)).append(';');
        }
        return Check.told(text + "law lean 5;");
    }

    private static boolean is(int number, int size) {
        return number >= 0 && number < size;
    }

    /** The call answers NONE, if there is no such one, and otherwise not. */
    private static void none(String call, int[] shape, int got, boolean such) {
        Check.due(call + " of " + shape[0] + " CLAIMS, " + shape[1] + " STRAW, " + shape[2] + " MEMBERS, is NONE", got == Check.NONE, !such);
    }

    private static boolean isThrown(StrawMen x, int claim) {
        try {
            x.claim(claim, 0);
            return false;
        } catch (IndexOutOfBoundsException e) {
            return true;
        } catch (NoSuchElementException e) {
            return false;
        }
    }

    private static void claims(int[] shape) {
        StrawMen x = told(shape);
        Doc.says("Promise 6", "IndexOutOfBoundsException: no such CLAIM.");
        for (int i : NUMBERS) {
            Check.due("claim(" + i + ", 0) of " + shape[0] + " throws", isThrown(x, i), !is(i, shape[0]));
        }
        Doc.says("Promise 17", "NONE: no such ones.");
        for (int i = 0; i < 10; i++) {
            none("set(" + (1 << i) + ", 0)", shape, x.set(1 << i, 0), is(i, shape[0]));
            none("set(" + ((1 << i) + 1) + ", 2)", shape, x.set(1 << i | 1, 2), is(i, shape[0]));
        }
        Doc.says("Promise 22", "NONE: no such ones.");
        for (int i : NUMBERS) {
            none("replies(" + i + ", 0)", shape, x.replies(i, 0), is(i, shape[0]));
        }
        Doc.says("Promise 23", "NONE: no such CLAIM.");
        for (int i : NUMBERS) {
            none("weaker(" + i + ")", shape, x.weaker(i), is(i, shape[0]));
        }
        Doc.says("Promise 24", "NONE: no such ones.");
        for (int i : NUMBERS) {
            none("dropFor(" + i + ", 0)", shape, x.dropFor(i, 0), is(i, shape[0]));
        }
    }

    private static void strawsAndMembers(int[] shape) {
        StrawMen x = told(shape);
        Doc.says("Promise 7", "NONE: no such ones.");
        for (int i : NUMBERS) {
            none("straw(" + i + ", 1)", shape, x.straw(i, 1), is(i, shape[1]));
        }
        Doc.says("Promise 8", "NONE: no such ones.");
        for (int i : NUMBERS) {
            none("member(" + i + ", 0)", shape, x.member(i, 0), is(i, shape[2]));
        }
    }

    private static void pairs(int[] shape) {
        StrawMen x = told(shape);
        Doc.says("Promise 9", "NONE: no such ones.");
        for (int member : NUMBERS) {
            for (int claim : NUMBERS) {
                none("force(" + member + ", " + claim + ")", shape, x.force(member, claim), is(member, shape[2]) && is(claim, shape[0]));
            }
        }
        Doc.says("Promise 10", "Long.MIN_VALUE: an ERROR, no such law, no such ones.");
        for (int straw : NUMBERS) {
            for (int member : NUMBERS) {
                boolean such = is(straw, shape[1]) && is(member, shape[2]);
                Check.due("law(0, " + straw + ", " + member + ")", x.law(0, straw, member), such ? 5 : Check.NO_VALUE);
            }
        }
    }

    private static void calls(int[] shape) {
        StrawMen x = told(shape);
        Doc.says("Promise 11", "NONE: no such ones.");
        for (int member : NUMBERS) {
            for (int straw : NUMBERS) {
                none("debate(" + member + ", " + straw + ")", shape, x.debate(member, straw), is(member, shape[2]) && is(straw, shape[1]));
            }
        }
        Check.due("BEATEN", x.count(8), shape[1] * shape[2]);
        Doc.says("Promise 12", "NONE: no such ones, he does.");
        for (int member : NUMBERS) {
            for (int claim : NUMBERS) {
                none("take(" + member + ", " + claim + ")", shape, x.take(member, claim), is(member, shape[2]) && is(claim, shape[0]));
            }
        }
        Check.due("HELD by all", x.count(12), shape[0] * shape[2]);
        Doc.says("Promise 13", "false: no such ones, he doesn't HOLD it.");
        for (int member : NUMBERS) {
            for (int claim : NUMBERS) {
                Check.due("drop(" + member + ", " + claim + ")", x.drop(member, claim), is(member, shape[2]) && is(claim, shape[0]));
            }
        }
        Check.due("HELD by all then", x.count(12), 0);
    }

    private static void nights(int[] shape) {
        StrawMen x = told(shape);
        Doc.says("Promise 15", "NONE: no such ones.");
        for (int i : NUMBERS) {
            none("ahead(1, 2, " + i + ")", shape, x.ahead(1, 2, i), is(i, shape[1]));
        }
        Doc.says("Promise 16", "NONE: no such STRAW.");
        for (int i : NUMBERS) {
            none("sheds(" + i + ")", shape, x.sheds(i), is(i, shape[1]));
        }
        Doc.says("Promise 36", "NONE: no such ones.");
        for (int i : NUMBERS) {
            none("chance(1, 1, " + i + ")", shape, x.chance(1, 1, i), is(i, shape[1]));
        }
        Doc.says("Promise 37", "NONE: no such ones (i 0 of all but 2).");
        for (int i : NUMBERS) {
            none("tried(2, " + i + ", 1)", shape, x.tried(2, i, 1), is(i, shape[2]));
            for (int what : new int[] {0, 1, 3, 4}) {
                none("tried(" + what + ", " + i + ", 1)", shape, x.tried(what, i, 1), i == 0);
            }
        }
    }

    private static void members(int[] shape) {
        for (int one : NUMBERS) {
            StrawMen x = told(shape);
            for (int other : NUMBERS) {
                boolean two = is(one, shape[2]) && is(other, shape[2]) && one != other;
                String both = "(" + one + ", " + other;
                Doc.says("Promise 25", "NONE: no such MEMBERS, alike.");
                none("points" + both + ")", shape, x.points(one, other), two);
                Doc.says("Promise 26", "NONE: no such MEMBERS, alike.");
                none("agreed" + both + ")", shape, x.agreed(one, other), two);
                Doc.says("Promise 28", "NONE: no such MEMBERS, alike.");
                none("rests" + both + ")", shape, x.rests(one, other), two);
                Doc.says("Promise 29", "NONE likewise, k is below 0.");
                none("rest" + both + ", 0)", shape, x.rest(one, other, 0), two);
                none("rest" + both + ", -1)", shape, x.rest(one, other, -1), false);
            }
        }
        StrawMen x = told(shape);
        Doc.says("Promise 31", "NONE: no such ones, or there are 24.");
        for (int i : NUMBERS) {
            none("see(1, " + i + ", 0, true)", shape, x.see(1, i, 0, true), is(i, shape[2]));
        }
        Doc.says("Promise 34", "NONE: no such MEMBER.");
        for (int i : NUMBERS) {
            none("held(" + i + ")", shape, x.held(i), is(i, shape[2]));
        }
        Doc.says("Promise 35", "NONE: no such ones.");
        for (int i : NUMBERS) {
            none("ask(" + i + ", 0)", shape, x.ask(i, 0), is(i, shape[2]));
        }
    }

    private static void matches(int[] shape) {
        // The last MEMBER alone WINS, with any STRAW: the first is his.
        if (shape[0] < 2 || shape[1] < 1 || shape[2] < 1) {
            return;
        }
        Doc.says("Promise 27", "MATCH, what 0 .. 4: the STRAW of that MEMBER (-2: none, there are not so many), 5: how many have one.");
        StringBuilder text = new StringBuilder("claim a 1 0;claim b 99 0;contra b a;");
        for (int i = 0; i < shape[1]; i++) {
            text.append("straw ").append((char) ('p' + i)).append(" a 50;");
        }
        for (int i = 0; i < shape[2]; i++) {
            text.append("member ").append((char) ('v' + i)).append(';');
        }
        StrawMen x = Check.told(text.toString());
        Check.due("none WINS yet", x.match(5), 0);
        x.take(shape[2] - 1, 1);
        for (int i = 0; i < 5; i++) {
            Check.due("match(" + i + ") of " + shape[1] + " STRAW, " + shape[2] + " MEMBERS", x.match(i), i == shape[2] - 1 ? 0 : -2);
        }
        Check.due("how many have one", x.match(5), 1);
    }
}
