/** Sentences on undoing, images and counts: the fourth part of 'Terms', promises 38 to 41. */
final class UndoSentences {
    private static final String ONE = TextSentences.ONE;

    private UndoSentences() {
    }

    static void all() {
        undone();
        undo();
        noUndo();
        imageKeeps();
        keep();
        back();
        noBack();
        counts();
        noCount();
    }

    private static void undone() {
        Doc.says("Terms 4", "Debating, taking, giving up by call (FULL, WON, BEATEN, HELD) can be undone, the latest first (20 at most), if no"
            + " NIGHT went by since.");
        StrawMen x = Check.told(ONE + "law turn 1;");
        x.debate(0, 0);
        x.debate(1, 0);
        x.take(1, 0);
        x.drop(0, 0);
        int[][] due = {{40, 1, 1, 1 + 2, 1}, {40, 1, 1, 2, 1}, {40, 1, 0, 0, 1}, {50, 0, 0, 0, 1}};
        Check.due("ahead of it, HELD by x", x.member(0, 0), 0);
        for (int i = 0; i < 4; i++) {
            Check.due("undo()", x.undo(), 3 - i);
            Check.due("FULL behind " + i, x.straw(0, 1), due[i][0]);
            Check.due("WON behind " + i, x.member(0, 1), due[i][1]);
            Check.due("BEATEN behind " + i, x.member(1, 2), due[i][2]);
            Check.due("HELD by y behind " + i, x.member(1, 0), due[i][3]);
            Check.due("HELD by x behind " + i, x.member(0, 0), due[i][4]);
        }
        twenty();
        StrawMen night = Check.told(ONE);
        night.take(1, 0);
        night.go(0);
        Check.due("no NIGHT went by", night.count(15), 1);
        night.go(201);
        night.go(-1);
        Check.due("none by a wrong number", night.count(15), 1);
        night.go(1);
        Check.due("a NIGHT went by", night.count(15), 0);
        Check.due("so there is none", night.undo(), Check.NONE);
        Check.due("HELD yet", night.member(1, 0), 1);
        night.drop(1, 0);
        Check.due("since then", night.undo(), 0);
        Check.due("HELD again", night.member(1, 0), 1);
    }

    private static void twenty() {
        for (int many : new int[] {19, 20, 21, 39, 40, 41, 60}) {
            StrawMen x = Check.told(ONE);
            for (int i = 0; i < many; i++) {
                x.debate(1, 0);
            }
            int left = Math.min(many, 20);
            Check.due("to undo behind " + many, x.count(15), left);
            for (int i = left - 1; i >= 0; i--) {
                Check.due("undo() behind " + many, x.undo(), i);
                Check.due("BEATEN then", x.member(1, 2), many - left + i);
            }
            Check.due("no more behind " + many, x.undo(), Check.NONE);
            Check.due("BEATEN at last", x.member(1, 2), many - left);
            x.take(1, 0);
            Check.due("one again", x.count(15), 1);
            Check.due("undone", x.undo(), 0);
            Check.due("HELD", x.member(1, 0), 0);
        }
    }

    private static void undo() {
        Doc.says("Promise 38", "The latest is undone: how many are left;");
        StrawMen x = Check.told(ONE);
        x.take(1, 0);
        x.take(1, 1);
        Check.due("undo()", x.undo(), 1);
        Check.due("the latest", x.member(1, 0), 1);
        x.drop(0, 0);
        Check.due("another one behind it", x.undo(), 1);
        Check.due("HELD by x", x.member(0, 0), 1);
        Check.due("undo() again", x.undo(), 0);
        Check.due("HELD by y", x.member(1, 0), 0);
        // Two straw, two members: the one that was worn, the one who won.
        StrawMen two = Check.told("claim a 40 1;claim b 60 2;contra a b;straw r b 50;straw s b 40;member x;member y;holds y a;"
            + "debate y s 0;debate x s 0;");
        two.go(1);
        two.debate(1, 1);
        two.debate(0, 0);
        two.undo();
        two.undo();
        Check.due("FULL of r", two.straw(0, 1), 50);
        Check.due("FULL of s", two.straw(1, 1), 30);
        Check.due("WON by y, on NIGHT 0", two.member(1, 1), 1);
        Check.due("BEATEN x, on NIGHT 0", two.member(0, 2), 1);
        two.debate(1, 0);
        two.debate(0, 1);
        two.debate(1, 1);
        Check.due("FULL of r, worn by y", two.straw(0, 1), 40);
        Check.due("FULL of s, worn by y", two.straw(1, 1), 20);
        two.undo();
        Check.due("FULL of s as it was", two.straw(1, 1), 30);
        two.undo();
        Check.due("x isn't BEATEN again", two.member(0, 2), 1);
        two.undo();
        Check.due("FULL of r as it was", two.straw(0, 1), 50);
        Check.due("FULL of s as it is", two.straw(1, 1), 30);
        // Of one who HOLDS it already nothing comes, and nothing is given up by undoing it.
        StrawMen held = Check.told(ONE + "holds y b;law turn 1;");
        held.debate(1, 0);
        held.undo();
        Check.due("HELD yet", held.member(1, 0), 2);
    }

    private static void noUndo() {
        Doc.says("Promise 38", "NONE: none.");
        Check.due("of a new one", new StrawMen().undo(), Check.NONE);
        StrawMen x = Check.told(ONE);
        Check.due("of a TEXT just told", x.undo(), Check.NONE);
        x.take(0, 0);
        x.take(5, 0);
        x.drop(1, 0);
        x.debate(0, 1);
        Check.due("of what was refused", x.undo(), Check.NONE);
        x.take(1, 0);
        x.undo();
        Check.due("of what is undone", x.undo(), Check.NONE);
        Check.due("nothing is undone by it", x.count(12), 1);
    }

    private static void imageKeeps() {
        Doc.says("Terms 4", "An IMAGE keeps all but what was SEEN.");
        StrawMen x = TextSentences.busy();
        x.keep();
        int[] due = new int[13];
        for (int what = 6; what < 13; what++) {
            due[what] = x.count(what);
        }
        StrawMen twin = TextSentences.busy();
        x.see(2, 0, 1, true);
        x.drop(0, 0);
        x.take(0, 1);
        x.debate(1, 0);
        x.go(40);
        Check.due("it is another NIGHT", x.count(6), 45);
        Check.due("back()", x.back(), 5);
        for (int what = 6; what < 13; what++) {
            Check.due("count(" + what + ") as then", x.count(what), due[what]);
        }
        for (int i = 0; i < 2; i++) {
            for (int what = 0; what < 3; what++) {
                Check.due("straw(" + i + ", " + what + ") as then", x.straw(i, what), twin.straw(i, what));
                Check.due("member(" + i + ", " + what + ") as then", x.member(i, what), twin.member(i, what));
            }
        }
        Check.due("what was SEEN isn't", x.count(13), 3);
        worn();
        for (int night = 1; night <= 30; night++) {
            x.go(1);
            twin.go(1);
            Check.due("FULL on NIGHT " + night + ", by the same numbers", x.straw(0, 1), twin.straw(0, 1));
        }
    }

    // What comes behind the IMAGE is as if it had never been: WON, BEATEN, PUT OFF, the SHED, FULL, HELD, the NIGHT.
    private static void worn() {
        StrawMen x = Check.told(ONE + "law wear 99;law turn 1;debate y s 0;debate x s 0;debate x s 1;");
        x.keep();
        for (int time = 0; time < 2; time++) {
            int[] due = {0, 0, 0, 0, 0, 50, 1};
            int[] then = {2, 1, 1, 1, 1, 0, 2};
            for (int what = 6; what < 13; what++) {
                Check.due("count(" + what + ") of the IMAGE", x.count(what), due[what - 6]);
            }
            x.go(2);
            for (int what = 6; what < 13; what++) {
                Check.due("count(" + what + ") two NIGHTS on", x.count(what), then[what - 6]);
            }
            x.back();
        }
        Check.due("in the BARN", x.straw(0, 2), 0);
        // The other way: what was in the SHED is in it again, though it was stuffed since.
        StrawMen shed = Check.told(ONE + "law wear 99;debate x s 0;stuff s 3;");
        shed.go(1);
        shed.keep();
        shed.go(3);
        Check.due("stuffed", shed.straw(0, 1), 99);
        shed.back();
        Check.due("in the SHED again", shed.straw(0, 2), 1);
        Check.due("FULL 0 again", shed.straw(0, 1), 0);
    }

    private static void keep() {
        Doc.says("Promise 39", "An IMAGE is kept (in place of one ahead): which NIGHT it is.");
        Check.due("of a new one", new StrawMen().keep(), 0);
        StrawMen x = Check.told(ONE);
        Check.due("keep()", x.keep(), 0);
        x.take(1, 0);
        x.go(3);
        x.take(1, 1);
        Check.due("keep() on NIGHT 3", x.keep(), 3);
        Check.due("what can be undone stays", x.count(15), 1);
        x.go(4);
        Check.due("back() to the later one", x.back(), 3);
        Check.due("HELD as then", x.member(1, 0), 3);
    }

    private static void back() {
        Doc.says("Promise 40", "All (but what was SEEN) is as in the IMAGE (nothing to undo then): which NIGHT it is;");
        StrawMen x = Check.told(ONE);
        x.go(2);
        x.take(1, 0);
        x.keep();
        x.see(1, 0, 1, true);
        x.drop(1, 0);
        Check.due("to undo ahead of it", x.count(15), 2);
        Check.due("back()", x.back(), 2);
        Check.due("to undo then", x.count(15), 0);
        Check.due("undo() then", x.undo(), Check.NONE);
        Check.due("HELD as then", x.member(1, 0), 1);
        Check.due("SEEN", x.count(13), 1);
        x.drop(1, 0);
        x.go(200);
        Check.due("back() once more", x.back(), 2);
        Check.due("HELD as then, once more", x.member(1, 0), 1);
        Check.due("back() at once", x.back(), 2);
        StrawMen wet = Check.told("claim a 1 1;straw s a 99;damp 50;seed 5;");
        wet.go(3);
        wet.keep();
        int[] full = new int[20];
        for (int i = 0; i < 20; i++) {
            wet.go(1);
            full[i] = wet.straw(0, 1);
        }
        wet.back();
        for (int i = 0; i < 20; i++) {
            wet.go(1);
            Check.due("FULL by the numbers of the IMAGE, NIGHT " + (4 + i), wet.straw(0, 1), full[i]);
        }
        StrawMen blank = new StrawMen();
        blank.keep();
        blank.go(9);
        Check.due("back() without LINES", blank.back(), 0);
    }

    private static void noBack() {
        Doc.says("Promise 40", "NONE: there is none.");
        Check.due("of a new one", new StrawMen().back(), Check.NONE);
        StrawMen x = Check.told(ONE);
        x.go(3);
        x.take(1, 0);
        Check.due("nothing was kept", x.back(), Check.NONE);
        Check.due("the NIGHT stays", x.count(6), 3);
        Check.due("what can be undone stays", x.count(15), 1);
        x.keep();
        Check.tell(x, "!");
        Check.due("behind a FAULT there is one", x.back(), 3);
        Check.tell(x, ONE);
        Check.due("behind a TEXT there is none", x.back(), Check.NONE);
        x.keep();
        x.text(0);
        Check.due("behind an empty TEXT, too", x.back(), Check.NONE);
    }

    private static void counts() {
        Doc.says("Promise 41", "0 CLAIMS, 1 contra, 2 STRAW, 3 MEMBERS, 4 DEBATES told, 5 KNOTS, 6 the NIGHT, 7 WON by all, 8 BEATEN, 9 in the"
            + " SHED, 10 PUT OFF so far, 11 FULL of all in sum, 12 CLAIMS HELD by all in sum, 13 SEEN, 14 by how many it is KNOWN, 15 what"
            + " can be undone.");
        StrawMen x = Check.told(Check.FIVE_CLAIMS + "law turn held + 1;");
        int[] first = {5, 5, 2, 2, 4, 3, 0, 0, 0, 0, 0, 54, 3, 0, 0, 0};
        x.see(1, 0, 1, true);
        x.see(2, 0, 1, true);
        x.strike(0);
        Check.due("by all", x.count(14), 3);
        x.known(2);
        first[13] = 3;
        first[14] = 2;
        for (int what = 0; what < 16; what++) {
            Check.due("count(" + what + ")", x.count(what), first[what]);
        }
        x.go(3);
        x.debate(1, 0);
        x.debate(1, 0);
        int[] later = {5, 5, 2, 2, 4, 3, 3, 2, 2, 1, 1, 40, 4, 3, 2, 2};
        for (int what = 0; what < 16; what++) {
            Check.due("count(" + what + ") on NIGHT 3", x.count(what), later[what]);
        }
        x.go(1);
        Check.due("DEBATES told, behind them, too", x.count(4), 4);
        everybody();
        full();
    }

    // All five win, are beaten, and hold what is counted.
    private static void everybody() {
        StringBuilder text = new StringBuilder("claim a 50 0;claim b 50 0;contra a b;straw s b 99;law wear 0;law lean 40 + held * 9;");
        for (char name = 'v'; name <= 'z'; name++) {
            text.append("member ").append(name).append(";holds ").append(name).append(" a;");
        }
        StrawMen x = Check.told(text.toString());
        for (int member = 0; member < 5; member++) {
            Check.due("WINS", x.debate(member, 0), 1);
            Check.due("WON by all", x.count(7), member + 1);
            x.take(member, 1);
            Check.due("is BEATEN", x.debate(member, 0), 0);
            Check.due("BEATEN by all", x.count(8), member + 1);
            Check.due("HELD by all", x.count(12), 6 + member);
        }
    }

    // As much as there may be of all.
    private static void full() {
        StringBuilder text = new StringBuilder();
        for (char name = 'a'; name < 'i'; name++) {
            text.append("claim ").append(name).append(" 9 0;");
        }
        for (char name = 'a'; name < 'f'; name++) {
            text.append("straw ").append(name).append(" a 99;member ").append(name).append(';');
        }
        for (int i = 0; i < 16; i++) {
            text.append("contra ").append((char) ('a' + i / 4)).append(' ').append((char) ('e' + i % 4)).append(';');
        }
        text.append("debate a a 0;".repeat(12));
        StrawMen x = Check.told(text.toString());
        int[] due = {8, 16, 5, 5, 12, 0, 0, 0, 0, 0, 0, 495, 0, 0, 0, 0};
        for (int what = 0; what < 16; what++) {
            Check.due("count(" + what + ") of as much as may be", x.count(what), due[what]);
        }
    }

    private static void noCount() {
        Doc.says("Promise 41", "NONE for another what.");
        for (StrawMen x : new StrawMen[] {Check.told(Check.FIVE_CLAIMS), new StrawMen()}) {
            for (int what : Check.notOf(16)) {
                Check.due("count(" + what + ")", x.count(what), Check.NONE);
            }
        }
    }
}
