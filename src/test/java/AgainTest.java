import java.util.ArrayList;
import java.util.List;

/** One object is told several texts one behind another: each time all is as with a new object. */
public final class AgainTest {
    private static final String LARGE = "claim a 69 1;claim b 68 2;claim c 57 3;claim d 56 4;claim e 45 5;claim f 44 6;"
        + "claim g 33 7;claim h 32 8;contra a b;contra b c;contra c d;contra d e;contra e f;contra f g;contra g h;"
        + "contra h a;contra a c;contra b d;contra c e;straw p a 90;straw q b 80;straw r c 70;straw s d 60;straw t e 50;"
        + "member v;member w;member x;member y;member z;holds v a;holds w b;holds x c;holds y d;holds z e;holds z h;"
        + "damp 60;seed 4711;law lean full / 3;law wear temper + wins;law turn 1;debate v q 0;debate w r 1;debate x s 2;"
        + "debate y t 3;debate z p 4;debate z t 5;stuff q 4;stuff p 2;";
    private static final String SMALL = "claim a 40 1;claim b 60 2;contra b a;straw s b 50;member x;member y;holds y b;"
        + "debate x s 0;debate y s 1;damp 30;";
    private static final String[] TEXTS = {LARGE, SMALL, Check.FIVE_CLAIMS, ""};

    public static void main(String[] args) {
        for (String first : TEXTS) {
            for (String second : TEXTS) {
                for (String third : TEXTS) {
                    compare(first, second, third);
                }
            }
        }
        Check.end("AgainTest");
    }

    private static void compare(String first, String second, String third) {
        StrawMen x = new StrawMen();
        Check.tell(x, first);
        doThings(x);
        Check.tell(x, second);
        doThings(x);
        Check.tell(x, "straw");
        int lines = Check.tell(x, third);
        StrawMen fresh = new StrawMen();
        Check.due("lines", lines, Check.tell(fresh, third));
        Check.due("lines as by semicolons", lines, third.chars().filter(c -> c == 0x3b).count());
        List<Long> due = answers(fresh);
        List<Long> got = answers(x);
        for (int i = 0; i < due.size(); i++) {
            Check.due("answer " + i + " to " + third + " told third", got.get(i), due.get(i));
        }
    }

    private static void doThings(StrawMen x) {
        x.debate(0, 0);
        x.debate(1, 0);
        x.take(0, 0);
        x.keep();
        x.go(3);
        x.go(2);
        x.debate(1, 0);
        x.see(1, 0, 1, true);
        x.known(1);
        for (int what = 0; what < 5; what++) {
            x.tried(what, 0, 9);
        }
        x.chance(1, 9, 0);
        x.match(5);
        x.dropFor(0, 0);
    }

    private static List<Long> answers(StrawMen x) {
        List<Long> answers = new ArrayList<>();
        for (int what = 4; what >= 0; what--) {
            answers.add((long) x.tried(what, 0, 9));
            answers.add((long) x.ahead(9, what, 0));
            answers.add((long) x.chance(what, 30, what));
            answers.add((long) x.dropFor(what, 1));
        }
        asks(x, answers);
        x.see(6, 0, 1, true);
        answers.add((long) x.held(0));
        answers.add((long) x.back());
        answers.add((long) x.undo());
        x.go(7);
        asks(x, answers);
        for (int night = 0; night < 30; night++) {
            x.go(1);
            answers.add((long) x.straw(0, 1));
        }
        return answers;
    }

    private static void asks(StrawMen x, List<Long> answers) {
        for (int what = 0; what < 16; what++) {
            answers.add((long) x.count(what));
        }
        for (int i = 0; i < 5; i++) {
            answers.add((long) x.straw(i, 0));
            answers.add((long) x.straw(i, 1));
            answers.add((long) x.straw(i, 2));
            answers.add((long) x.member(i, 0));
            answers.add((long) x.member(i, 1));
            answers.add((long) x.member(i, 2));
            answers.add((long) x.match(i));
            answers.add((long) x.sheds(i));
        }
        for (int what = 0; what < 3; what++) {
            answers.add(x.law(what, 0, 0));
            answers.add((long) x.standing(what));
        }
        answers.add((long) x.ground());
        answers.add((long) x.largest());
        answers.add(x.dry(3, 1));
        answers.add((long) x.points(0, 1));
        answers.add((long) x.ask(0, 0));
        answers.add((long) x.named(0, Check.letters("h")));
    }
}
