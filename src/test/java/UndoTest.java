/** Promises 38 to 41: undo, keep, back, count. */
public final class UndoTest {
    private static final String ONE = "claim a 40 1;claim b 60 2;contra a b;straw s b 50;member x;member y;holds x a;"
        + "damp 40;seed 3;law turn 1;debate x s 0;debate y s 1;";

    public static void main(String[] args) {
        undoing();
        undoingOthers();
        undoingTwenty();
        images();
        counts();
        Check.end("UndoTest");
    }

    private static void undoing() {
        StrawMen x = Check.told(ONE);
        Check.due("nothing to undo", x.undo(), Check.NONE);
        x.debate(0, 0);
        x.debate(1, 0);
        x.take(1, 0);
        x.drop(0, 0);
        Check.due("turned and taken", x.member(1, 0), 3);
        Check.due("four", x.count(15), 4);
        x.take(1, 0);
        x.drop(0, 0);
        x.debate(5, 0);
        Check.due("what fails can't be undone", x.count(15), 4);
        Check.due("undo drop", x.undo(), 3);
        Check.due("holds again", x.member(0, 0), 1);
        Check.due("undo take", x.undo(), 2);
        Check.due("holds b alone", x.member(1, 0), 2);
        Check.due("undo a lost debate", x.undo(), 1);
        Check.due("not turned", x.member(1, 0), 0);
        Check.due("not beaten", x.member(1, 2), 0);
        Check.due("undo a won debate", x.undo(), 0);
        Check.due("not worn", x.straw(0, 1), 50);
        Check.due("not won", x.member(0, 1), 0);
        Check.due("no more", x.undo(), Check.NONE);
        x.debate(0, 0);
        Check.due("go(0)", x.go(0), 0);
        Check.due("no night went by", x.count(15), 1);
        x.go(201);
        Check.due("none by a wrong number either", x.count(15), 1);
        x.go(1);
        Check.due("a night went by", x.count(15), 0);
        Check.due("so none is undone", x.undo(), Check.NONE);
        x.take(1, 0);
        Check.due("since then", x.undo(), 0);
    }

    private static void undoingOthers() {
        StrawMen x = Check.told("claim a 40 1;claim b 60 2;contra a b;straw r b 50;straw s b 40;member x;member y;"
            + "holds y a;debate y s 0;debate x s 0;");
        x.go(1);
        x.debate(1, 1);
        x.debate(0, 1);
        Check.due("beaten twice", x.member(0, 2), 2);
        x.undo();
        Check.due("beaten once", x.member(0, 2), 1);
        x.undo();
        Check.due("won once", x.member(1, 1), 1);
        Check.due("the straw it was", x.straw(1, 1), 30);
        Check.due("not the other one", x.straw(0, 1), 50);
    }

    private static void undoingTwenty() {
        StrawMen x = Check.told(ONE);
        for (int i = 0; i < 25; i++) {
            x.debate(0, 0);
        }
        Check.due("25 won", x.member(0, 1), 25);
        Check.due("20 at most", x.count(15), 20);
        for (int i = 19; i >= 0; i--) {
            Check.due("undo", x.undo(), i);
        }
        Check.due("5 won", x.member(0, 1), 5);
        Check.due("no more", x.undo(), Check.NONE);
        for (int i = 0; i < 13; i++) {
            x.debate(1, 0);
        }
        for (int i = 12; i >= 0; i--) {
            Check.due("undo again", x.undo(), i);
        }
        Check.due("not beaten", x.member(1, 2), 0);
    }

    private static void images() {
        StrawMen x = Check.told(ONE);
        Check.due("no image", x.back(), Check.NONE);
        x.go(1);
        x.take(1, 0);
        Check.due("keep", x.keep(), 1);
        Check.due("keeping undoes nothing", x.count(15), 1);
        StrawMen twin = Check.told(ONE);
        twin.go(1);
        twin.take(1, 0);
        twin.go(30);
        x.go(30);
        x.drop(1, 0);
        x.see(1, 0, 1, true);
        Check.due("back", x.back(), 1);
        Check.due("nothing to undo", x.undo(), Check.NONE);
        Check.due("held as then", x.member(1, 0), 1);
        Check.due("seen stays", x.count(13), 1);
        x.go(30);
        Check.due("the numbers as then", x.straw(0, 1), twin.straw(0, 1));
        Check.due("won as then", x.count(7), twin.count(7));
        Check.due("beaten as then", x.count(8), twin.count(8));
        Check.due("back again", x.back(), 1);
        x.go(2);
        Check.due("in place of it", x.keep(), 3);
        x.go(5);
        Check.due("back to the later one", x.back(), 3);
        StrawMen wet = Check.told("claim a 9 0;straw s a 99;member x;damp 37;seed 3;");
        wet.go(1);
        wet.debate(0, 0);
        wet.keep();
        int[] full = new int[30];
        for (int i = 0; i < 30; i++) {
            wet.go(1);
            full[i] = wet.straw(0, 1);
        }
        wet.debate(0, 0);
        wet.back();
        Check.due("beaten as then", wet.member(0, 2), 1);
        for (int i = 0; i < 30; i++) {
            wet.go(1);
            Check.due("number " + i + " as then", wet.straw(0, 1), full[i]);
        }
        StrawMen shed = Check.told("claim a 9 0;claim b 9 0;contra a b;straw s b 1;member x;holds x a;debate x s 0;debate x s 1;");
        shed.keep();
        shed.go(2);
        Check.due("in the shed, put off", shed.count(9) * 10 + shed.count(10), 11);
        shed.keep();
        shed.go(9);
        Check.due("back", shed.back(), 2);
        Check.due("as then", shed.count(9) * 10 + shed.count(10), 11);
    }

    private static void counts() {
        StrawMen x = Check.told(Check.FIVE_CLAIMS + "law turn held + 1;");
        int[] first = {5, 5, 2, 2, 4, 3, 0, 0, 0, 0, 0, 54, 3, 0, 0, 0};
        for (int what = 0; what < first.length; what++) {
            Check.due("count(" + what + ")", x.count(what), first[what]);
        }
        x.see(1, 0, 1, true);
        x.see(2, 0, 1, true);
        x.known(1);
        x.go(3);
        x.debate(1, 0);
        int[] later = {5, 5, 2, 2, 4, 3, 3, 2, 1, 1, 1, 40, 4, 2, 1, 1};
        for (int what = 0; what < later.length; what++) {
            Check.due("count(" + what + ") later", x.count(what), later[what]);
        }
        Check.due("count(16)", x.count(16), Check.NONE);
        Check.due("count(-1)", x.count(-1), Check.NONE);
    }
}
