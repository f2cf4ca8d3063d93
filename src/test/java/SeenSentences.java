/** Sentences on what was seen: the third part of 'Terms', promises 31 to 35. */
final class SeenSentences {
    // x beats s on NIGHT 0 by a alone and t on NIGHT 1 by a or b; c is of no use. By the text he HOLDS c, y HOLDS a.
    private static final String THREE = "claim a 50 0;claim b 40 0;claim c 30 0;claim d 90 0;contra a d;contra b d;"
        + "straw s d 50;straw t d 40;member x;member y;holds x c;holds y a;debate x s 0;debate x t 1;debate y t 2;";
    // x debates s twelve times on NIGHT 59, and wins each time by a.
    private static final String TWELVE = "claim a 50 0;claim b 40 0;contra a b;straw s b 99;member x;member y;law wear 0;"
        + "debate x s 59;".repeat(12);

    private SeenSentences() {
    }

    static void all() {
        seen();
        see();
        noSee();
        strikeOfOne();
        strike();
        noStrike();
        knownBy();
        known();
        noKnown();
        heldBy();
        held();
        noHeld();
        askOf();
        ask();
        noAsk();
    }

    private static void seen() {
        Doc.says("Terms 3", "SEEN, at most 24, numbered from 0 on: behind so many NIGHTS 1 .. 60 (as it goes from the TEXT on, nothing done by"
            + " call) a MEMBER had WON so often 0 .. 12 at least, or less.");
        StrawMen many = Check.told(THREE);
        for (int i = 0; i < 24; i++) {
            Check.due("see, number " + i, many.see(1, 0, 0, true), i);
        }
        Check.due("a 25th", many.see(1, 0, 0, true), Check.NONE);
        // Behind 60 NIGHTS x has WON 12 times by a, behind 59 NIGHTS nothing yet.
        int[] nights = {60, 60, 60, 60, 59, 59, 59, 1, 1};
        int[] wins = {12, 12, 0, 1, 0, 1, 1, 0, 0};
        boolean[] atLeast = {true, false, true, false, true, true, false, true, false};
        int[] due = {1, 2, 3, 2, 3, 0, 3, 3, 0};
        for (int i = 0; i < due.length; i++) {
            StrawMen x = Check.told(TWELVE);
            x.see(nights[i], 0, wins[i], atLeast[i]);
            Check.due("HELD by see(" + nights[i] + ", 0, " + wins[i] + ", " + atLeast[i] + ")", x.held(0), due[i]);
        }
        StrawMen eleven = Check.told(TWELVE.replaceFirst("debate x s 59;", ""));
        eleven.see(60, 0, 12, true);
        Check.due("eleven times aren't twelve", eleven.held(0), 0);
        StrawMen other = Check.told(THREE);
        other.see(3, 1, 1, true);
        Check.due("of y, who debates on NIGHT 2", other.held(1), 3);
        Check.due("of y, whatever x held", other.held(0), 15);
        other.see(3, 0, 1, true);
        Check.due("x has WON, too, which y can't make so", other.held(1), 0);
        StrawMen later = Check.told(THREE);
        later.see(2, 0, 2, true);
        later.see(1, 0, 1, true);
        Check.due("the later NIGHT first: a alone WINS twice", later.held(0), 1);
        StrawMen less = Check.told(THREE);
        less.see(2, 0, 1, false);
        less.see(1, 1, 0, true);
        Check.due("the later NIGHT first, less", less.held(0), 12);
        StrawMen called = Check.told(THREE);
        called.take(0, 0);
        called.debate(0, 0);
        called.debate(0, 1);
        called.go(2);
        called.see(2, 0, 1, true);
        Check.due("nothing done by call", called.held(0), 3);
        StrawMen wet = Check.told("claim a 31 1;claim b 60 2;contra a b;straw s b 55;member x;debate x s 4;damp 50;");
        wet.see(5, 0, 1, true);
        Check.due("as it goes it is damp by 50", wet.held(0), 1);
        StrawMen dry = Check.told("claim a 31 1;claim b 60 2;contra a b;straw s b 55;member x;debate x s 4;damp 49;");
        dry.see(5, 0, 1, true);
        Check.due("as it goes it isn't by 49", dry.held(0), 0);
    }

    private static void see() {
        Doc.says("Promise 31", "SEEN: its number;");
        StrawMen x = Check.told(THREE);
        Check.due("the least", x.see(1, 0, 0, false), 0);
        Check.due("the most", x.see(60, 1, 12, true), 1);
        x.strike(0);
        Check.due("a STRIKE has a number, too", x.see(1, 0, 0, true), 3);
        Check.due("SEEN", x.count(13), 4);
        x.go(1);
        Check.due("on another NIGHT", x.see(60, 0, 0, true), 4);
    }

    private static void noSee() {
        Doc.says("Promise 31", "NONE: no such ones, or there are 24.");
        StrawMen x = Check.told(THREE);
        for (int nights : new int[] {0, -1, 61, 62, 100, Integer.MAX_VALUE, Integer.MIN_VALUE}) {
            Check.due("see(" + nights + ", 0, 0, true)", x.see(nights, 0, 0, true), Check.NONE);
        }
        for (int member : Check.notOf(2)) {
            Check.due("see(1, " + member + ", 0, true)", x.see(1, member, 0, true), Check.NONE);
        }
        for (int wins : Check.notOf(13)) {
            Check.due("see(1, 0, " + wins + ", false)", x.see(1, 0, wins, false), Check.NONE);
        }
        Check.due("see of a new one", new StrawMen().see(1, 0, 0, true), Check.NONE);
        Check.due("nothing is SEEN", x.count(13), 0);
        for (int i = 0; i < 12; i++) {
            Check.due("see", x.see(1, 0, 0, true), 2 * i);
            Check.due("strike", x.strike(2 * i), 2 * i + 1);
        }
        Check.due("there are 24, half of them STRIKES", x.see(1, 0, 1, true), Check.NONE);
        Check.due("it isn't SEEN", x.held(0), 15);
        Check.due("SEEN", x.count(13), 24);
    }

    private static void strikeOfOne() {
        Doc.says("Terms 3", "A STRIKE of one.");
        StrawMen x = Check.told(THREE);
        x.see(1, 0, 1, true);
        x.see(2, 0, 1, false);
        Check.due("by both", x.held(0), 0);
        x.strike(0);
        Check.due("by the other one", x.held(0), 12);
        StrawMen y = Check.told(THREE);
        y.see(1, 0, 1, true);
        y.see(2, 0, 1, false);
        y.strike(1);
        Check.due("by the first one", y.held(0), 1);
    }

    private static void strike() {
        Doc.says("Promise 32", "A STRIKE: its number;");
        StrawMen x = Check.told(THREE);
        x.see(1, 0, 1, true);
        Check.due("strike(0)", x.strike(0), 1);
        Check.due("of the same again", x.strike(0), 2);
        Check.due("of a STRIKE", x.strike(2), 3);
        Check.due("SEEN", x.count(13), 4);
    }

    private static void noStrike() {
        Doc.says("Promise 32", "NONE: no such one SEEN, or there are 24.");
        StrawMen x = Check.told(THREE);
        Check.due("strike(0) of nothing", x.strike(0), Check.NONE);
        x.see(1, 0, 1, true);
        x.see(1, 0, 1, true);
        for (int seen : Check.notOf(2)) {
            Check.due("strike(" + seen + ")", x.strike(seen), Check.NONE);
        }
        Check.due("SEEN", x.count(13), 2);
        for (int i = 2; i < 24; i++) {
            Check.due("strike, number " + i, x.strike(i - 1), i);
        }
        Check.due("there are 24, strike(0)", x.strike(0), Check.NONE);
        Check.due("there are 24, strike(23)", x.strike(23), Check.NONE);
        Check.due("SEEN then", x.count(13), 24);
        Check.tell(x, THREE);
        Check.due("by another TEXT nothing is SEEN", x.strike(0), Check.NONE);
    }

    private static void knownBy() {
        Doc.says("Terms 3", "KNOWN by n (all at first): the first n that aren't STRUCK by one of these (a STRIKE may be STRUCK: then it doesn't"
            + " count; asked from the last one on).");
        StrawMen x = Check.told(THREE);
        x.see(1, 0, 1, true);
        Check.due("all at first", x.held(0), 1);
        x.strike(0);
        x.strike(1);
        x.strike(2);
        // By one it counts; by two it is STRUCK; by three the STRIKE is STRUCK; by four that one is STRUCK.
        int[] due = {15, 1, 15, 1, 15};
        for (int n = 0; n <= 4; n++) {
            x.known(n);
            Check.due("HELD by " + n, x.held(0), due[n]);
        }
        // Twice STRUCK: one of the STRIKES is STRUCK, the other one counts yet.
        StrawMen twice = Check.told(THREE);
        twice.see(1, 0, 1, true);
        twice.strike(0);
        twice.strike(0);
        Check.due("STRUCK twice", twice.held(0), 15);
        twice.strike(0);
        Check.due("STRUCK three times", twice.held(0), 15);
        twice.strike(3);
        twice.strike(1);
        Check.due("STRUCK by the other one", twice.held(0), 15);
        twice.strike(2);
        Check.due("both are STRUCK", twice.held(0), 1);
        // Two STRIKES of one STRIKE, the last one of which is STRUCK itself.
        StrawMen last = Check.told(THREE);
        last.see(1, 0, 1, true);
        last.strike(0);
        last.strike(1);
        last.strike(1);
        last.strike(3);
        Check.due("STRUCK by the one that is left", last.held(0), 1);
        // A chain of 24: the one at its head counts, if the number of STRIKES is even.
        StrawMen chain = Check.told(THREE);
        chain.see(1, 0, 1, true);
        for (int i = 1; i < 24; i++) {
            chain.strike(i - 1);
            Check.due("HELD behind " + i + " STRIKES", chain.held(0), i % 2 == 0 ? 1 : 15);
        }
    }

    private static void known() {
        Doc.says("Promise 33", "KNOWN by n from now on (-1: by all, also those to come): true;");
        StrawMen x = Check.told(THREE);
        Check.due("known(0) of nothing SEEN", x.known(0), true);
        x.see(1, 0, 1, true);
        Check.due("by 0 from now on", x.held(0), 15);
        Check.due("count(14) of 0", x.count(14), 0);
        Check.due("known(1)", x.known(1), true);
        Check.due("by 1", x.held(0), 1);
        x.strike(0);
        Check.due("by 1, not those to come", x.held(0), 1);
        Check.due("count(14) of 1", x.count(14), 1);
        Check.due("known(-1)", x.known(-1), true);
        Check.due("by all", x.held(0), 15);
        x.strike(1);
        Check.due("also those to come", x.held(0), 1);
        Check.due("count(14) of all", x.count(14), 3);
        Check.due("known(3)", x.known(3), true);
        x.strike(0);
        Check.due("by 3, which were all then", x.held(0), 1);
    }

    private static void noKnown() {
        Doc.says("Promise 33", "false: no such n.");
        StrawMen x = Check.told(THREE);
        for (int n : new int[] {1, 24, -2, Integer.MAX_VALUE, Integer.MIN_VALUE}) {
            Check.due("known(" + n + ") of nothing SEEN", x.known(n), false);
        }
        x.see(1, 0, 1, true);
        x.strike(0);
        x.known(1);
        for (int n : new int[] {3, 4, 24, 25, -2, -3, Integer.MAX_VALUE, Integer.MIN_VALUE}) {
            Check.due("known(" + n + ")", x.known(n), false);
            Check.due("by 1 as it was", x.count(14), 1);
            Check.due("HELD as it was", x.held(0), 1);
        }
        Check.due("known(2)", x.known(2), true);
        for (int i = 2; i < 24; i++) {
            x.see(1, 0, 0, true);
        }
        Check.due("known(24)", x.known(24), true);
        Check.due("known(25)", x.known(25), false);
    }

    private static void heldBy() {
        Doc.says("Terms 3", "HELD by a MEMBER: CLAIMS (bits), HELD by the TEXT or not, which as the only one he HOLDS at first (nothing else"
            + " being otherwise than by the TEXT) would make all KNOWN ones so.");
        StrawMen x = Check.told(THREE);
        x.see(2, 0, 1, true);
        Check.due("a or b, neither of which he HOLDS by the TEXT", x.held(0), 3);
        Check.due("of y, with whom x HOLDS c by the TEXT", x.held(1), 0);
        x.see(3, 1, 1, true);
        // x wins with t on NIGHT 1 by a (50 against 36) or b (40 against 36), so t is at 30 when y, who HOLDS a, debates it.
        Check.due("y WON, too, by what he HOLDS by the TEXT", x.held(0), 3);
        x.see(3, 1, 1, false);
        Check.due("both can't be", x.held(0), 0);
        StrawMen only = Check.told("claim a 9 0;claim b 9 0;contra a b;straw s b 99;member x;holds x a;holds x b;debate x s 0;"
            + "law lean held;");
        only.see(1, 0, 1, true);
        Check.due("as the only one he HOLDS, for a law too", only.held(0), 1);
        StrawMen turned = Check.told("claim a 9 0;claim b 9 0;contra b a;straw s a 99;straw t b 99;member x;law turn 1;"
            + "debate x t 0;debate x s 1;");
        turned.see(2, 0, 1, true);
        Check.due("at first: he is turned on the way", turned.held(0), 3);
    }

    private static void held() {
        Doc.says("Promise 34", "HELD (bits);");
        StrawMen x = Check.told(THREE);
        Check.due("by nothing SEEN, all", x.held(0), 15);
        Check.due("by nothing SEEN, all, of y", x.held(1), 15);
        x.see(1, 0, 1, true);
        Check.due("a", x.held(0), 1);
        x.see(1, 0, 1, false);
        Check.due("nothing", x.held(0), 0);
        Check.due("without CLAIMS", Check.told("member x;").held(0), 0);
        Check.due("of all eight", Check.told("claim a 1 1;claim b 1 1;claim c 1 1;claim d 1 1;claim e 1 1;claim f 1 1;claim g 1 1;"
            + "claim h 1 1;member x;").held(0), 255);
        Check.due("he HOLDS what he held", x.member(0, 0), 4);
    }

    private static void noHeld() {
        Doc.says("Promise 34", "NONE: no such MEMBER.");
        StrawMen x = Check.told(THREE);
        for (int member : Check.notOf(2)) {
            Check.due("held(" + member + ")", x.held(member), Check.NONE);
        }
        Check.due("held(0) of a new one", new StrawMen().held(0), Check.NONE);
    }

    private static void asked(String text, int weight, int left) {
        StrawMen x = Check.told(text);
        Check.due("ask(0, 0) of " + text, x.ask(0, 0), weight);
        Check.due("ask(0, 1) of " + text, x.ask(0, 1), left);
    }

    private static void askOf() {
        Doc.says("Terms 3", "ASK of a MEMBER: the WEIGHT 0 .. 99 by which, if one asks whether the one he HELD weighs so much at least, as few"
            + " of HELD (by KNOWN) as may be are left at worst, the first of several.");
        asked("member x;claim a 50 0;claim b 40 0;claim c 30 0;claim d 90 0;", 41, 2);
        asked("member x;claim a 0 0;claim b 99 0;", 1, 1);
        asked("member x;claim a 98 0;claim b 99 0;", 99, 1);
        asked("member x;claim a 99 0;claim b 99 0;claim c 98 0;", 99, 2);
        asked("member x;claim a 0 0;claim b 1 0;claim c 1 0;", 1, 2);
        asked("member x;claim a 0 0;claim b 0 0;", 0, 2);
        asked("member x;claim a 99 0;claim b 99 0;", 0, 2);
        asked("member x;claim a 10 0;claim b 20 0;claim c 30 0;", 11, 2);
        asked("member x;claim a 10 0;claim b 20 0;claim c 20 0;claim d 30 0;", 11, 3);
        StrawMen x = Check.told(THREE);
        x.see(2, 0, 1, true);
        Check.due("by KNOWN, of 50 and 40", x.ask(0, 0), 41);
        Check.due("by KNOWN, left", x.ask(0, 1), 1);
        x.known(0);
        Check.due("by none, left", x.ask(0, 1), 2);
    }

    private static void ask() {
        Doc.says("Promise 35", "ASK, what 0: the WEIGHT, 1: how many are left at worst (0 and 0, if there are none).");
        StrawMen x = Check.told(THREE);
        x.see(1, 0, 1, true);
        Check.due("one alone", x.ask(0, 0), 0);
        Check.due("one alone, left", x.ask(0, 1), 1);
        x.see(1, 0, 1, false);
        Check.due("there are none", x.ask(0, 0), 0);
        Check.due("there are none, left", x.ask(0, 1), 0);
        asked("member x;", 0, 0);
        asked("member x;claim a 77 0;", 0, 1);
    }

    private static void noAsk() {
        Doc.says("Promise 35", "NONE: no such ones.");
        StrawMen x = Check.told(THREE);
        for (int member : Check.notOf(2)) {
            Check.due("ask(" + member + ", 0)", x.ask(member, 0), Check.NONE);
            Check.due("ask(" + member + ", 1)", x.ask(member, 1), Check.NONE);
        }
        for (int what : Check.notOf(2)) {
            Check.due("ask(0, " + what + ")", x.ask(0, what), Check.NONE);
        }
        Check.due("ask(0, 0) of a new one", new StrawMen().ask(0, 0), Check.NONE);
    }
}
