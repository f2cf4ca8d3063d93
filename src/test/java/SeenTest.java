/** Promises 31 to 35: what was seen and struck, by how much of it one knows, what a member held, what to ask. */
public final class SeenTest {
    // x beats s on night 0 by a alone and t on night 1 by a or b; c is of no use.
    private static final String THREE = "claim a 50 0;claim b 40 0;claim c 30 0;claim d 90 0;contra a d;contra b d;"
        + "straw s d 50;straw t d 40;member x;member y;holds x c;holds y a;debate x s 0;debate x t 1;debate y t 2;";

    public static void main(String[] args) {
        seeing();
        striking();
        knowing();
        holding();
        asking();
        Check.end("SeenTest");
    }

    private static void seeing() {
        StrawMen x = Check.told(THREE);
        Check.due("see(0, ..)", x.see(0, 0, 1, true), Check.NONE);
        Check.due("see(61, ..)", x.see(61, 0, 1, true), Check.NONE);
        Check.due("see of no member", x.see(1, 2, 1, true), Check.NONE);
        Check.due("see of member -1", x.see(1, -1, 1, true), Check.NONE);
        Check.due("see of -1", x.see(1, 0, -1, true), Check.NONE);
        Check.due("see of 13", x.see(1, 0, 13, true), Check.NONE);
        Check.due("see(60, ..)", x.see(60, 1, 12, false), 0);
        Check.due("see(1, ..)", x.see(1, 0, 0, true), 1);
        Check.due("strike(2)", x.strike(2), Check.NONE);
        Check.due("strike(-1)", x.strike(-1), Check.NONE);
        Check.due("strike(1)", x.strike(1), 2);
        for (int i = 3; i < 24; i++) {
            Check.due("see " + i, x.see(1, 0, 0, true), i);
        }
        Check.due("a 25th", x.see(1, 0, 0, true), Check.NONE);
        Check.due("a 25th strike", x.strike(0), Check.NONE);
        Check.due("count(13)", x.count(13), 24);
    }

    private static void striking() {
        StrawMen x = Check.told(THREE);
        x.see(1, 0, 1, true);
        Check.due("by a alone", x.held(0), 1);
        x.see(2, 0, 2, false);
        Check.due("by none", x.held(0), 0);
        Check.due("strike(0)", x.strike(0), 2);
        Check.due("the other one is left", x.held(0), 14);
        Check.due("strike the strike", x.strike(2), 3);
        Check.due("both again", x.held(0), 0);
        Check.due("strike that", x.strike(3), 4);
        Check.due("the other one is left again", x.held(0), 14);
        Check.due("strike(1)", x.strike(1), 5);
        Check.due("all", x.held(0), 15);
        Check.due("strike it twice", x.strike(1), 6);
        Check.due("strike one of the two", x.strike(5), 7);
        Check.due("it is struck yet", x.held(0), 15);
    }

    private static void knowing() {
        StrawMen x = Check.told(THREE);
        x.see(1, 0, 1, true);
        x.see(2, 0, 1, false);
        x.strike(0);
        Check.due("known(4)", x.known(4), false);
        Check.due("known(-2)", x.known(-2), false);
        Check.due("by all", x.count(14), 3);
        Check.due("known(0)", x.known(0), true);
        Check.due("by none", x.held(0), 15);
        Check.due("count(14)", x.count(14), 0);
        Check.due("known(1)", x.known(1), true);
        Check.due("by one", x.held(0), 1);
        Check.due("known(2)", x.known(2), true);
        Check.due("by two", x.held(0), 0);
        Check.due("known(3)", x.known(3), true);
        Check.due("by three", x.held(0), 12);
        x.strike(1);
        Check.due("by three, not those to come", x.held(0), 12);
        Check.due("count(14) of three", x.count(14), 3);
        Check.due("known(-1)", x.known(-1), true);
        Check.due("also those to come", x.held(0), 15);
        x.see(1, 0, 1, true);
        Check.due("one more", x.held(0), 1);
        Check.due("count(14) of all", x.count(14), 5);
    }

    private static void holding() {
        StrawMen x = Check.told(THREE);
        Check.due("held(2)", x.held(2), Check.NONE);
        Check.due("held(-1)", x.held(-1), Check.NONE);
        x.see(2, 0, 1, true);
        Check.due("by a or b", x.held(0), 3);
        x.take(0, 0);
        x.drop(0, 2);
        x.go(3);
        Check.due("nothing done by call", x.held(0), 3);
        Check.due("of y, who doesn't make x win", x.held(1), 0);
        x.strike(0);
        // y debates t on night 2, at FULL 40 with a lean of 36, as x by the text can't wear it.
        x.see(3, 1, 1, true);
        Check.due("of y", x.held(1), 3);
        x.see(60, 1, 2, false);
        Check.due("long behind", x.held(1), 3);
        x.see(2, 1, 1, true);
        Check.due("not yet by then", x.held(1), 0);
        StrawMen wet = Check.told("claim a 31 1;claim b 60 2;contra a b;straw s b 55;member x;debate x s 4;damp 50;");
        wet.see(5, 0, 1, true);
        Check.due("as it goes it is damp", wet.held(0), 1);
        wet.see(4, 0, 1, false);
        Check.due("less by then", wet.held(0), 1);
        StrawMen dryer = Check.told("claim a 31 1;claim b 60 2;contra a b;straw s b 55;member x;debate x s 4;damp 49;");
        dryer.see(5, 0, 1, true);
        Check.due("as it goes it isn't", dryer.held(0), 0);
        StrawMen held = Check.told("claim a 9 0;claim b 9 0;contra a b;straw s b 99;member x;holds x a;holds x b;"
            + "debate x s 0;law lean held;");
        held.see(1, 0, 1, true);
        Check.due("the only one he holds", held.held(0), 1);
    }

    private static void asking() {
        StrawMen x = Check.told(THREE);
        Check.due("of 50, 40, 30, 90", x.ask(0, 0), 41);
        Check.due("two are left", x.ask(0, 1), 2);
        x.see(2, 0, 1, true);
        Check.due("of 50, 40", x.ask(0, 0), 41);
        Check.due("one is left", x.ask(0, 1), 1);
        x.see(1, 0, 1, true);
        Check.due("of 50 alone", x.ask(0, 0), 0);
        Check.due("it is left", x.ask(0, 1), 1);
        x.see(1, 0, 1, false);
        Check.due("of none", x.ask(0, 0), 0);
        Check.due("none is left", x.ask(0, 1), 0);
        x.known(0);
        Check.due("by known", x.ask(0, 0), 41);
        Check.due("ask(2, 0)", x.ask(2, 0), Check.NONE);
        Check.due("ask(-1, 0)", x.ask(-1, 0), Check.NONE);
        Check.due("ask(0, 2)", x.ask(0, 2), Check.NONE);
        Check.due("ask(0, -1)", x.ask(0, -1), Check.NONE);
        StrawMen same = Check.told("claim a 99 0;claim b 99 0;claim c 99 0;claim d 98 0;member x;");
        Check.due("the most weight", same.ask(0, 0), 99);
        Check.due("three are left", same.ask(0, 1), 3);
    }
}
