import java.util.ArrayList;
import java.util.Collections;
import java.util.List;
import java.util.Random;

/** Texts made by chance. Most of them are without a fault, with much going on in the first nights; 700 bytes at most. */
final class TextByChance {
    private static final String[] JOINTS = {" + ", " - ", " * ", " / ", " < ", " <= ", " = ", " <> ", " >= ", " > ", " and ",
        " or ", "+", "-", "*", "/", "<", "<=", "=", "<>", ">=", ">"};
    private static final String[] SPOILT = {"", ";", " ", "0", "9", "a", "not ", "(", ")", "<", "~", "claim "};

    private final Random random;
    private final List<String> lines = new ArrayList<>();
    private int room;

    TextByChance(Random random) {
        this.random = random;
        room = random.nextInt(8) == 0 ? 700 : 300 + random.nextInt(400);
    }

    static int letters(Random random) {
        int first = 1 + random.nextInt(9);
        return random.nextInt(10) == 0 ? random.nextInt() : first << 25 | (random.nextInt(10) == 0 ? random.nextInt(32) : 0);
    }

    String text() {
        int claims = few(9, 5);
        int straws = claims == 0 ? 0 : few(6, 3);
        int members = few(6, 3);
        for (int i = 0; i < claims; i++) {
            add("claim " + name(i) + " " + random.nextInt(random.nextInt(4) == 0 ? 4 : 100) + " " + random.nextInt(10));
        }
        for (int i = 0; i < straws; i++) {
            int full = 1 + random.nextInt(random.nextInt(3) == 0 ? 99 : 20);
            add("straw " + name(i) + " " + name(random.nextInt(claims)) + " " + full);
        }
        for (int i = 0; i < members; i++) {
            add("member " + name(i));
        }
        int ahead = lines.size();
        pairs("contra", claims, claims, 17);
        pairs("holds", members, claims, 4 * members);
        happenings(straws, members);
        numbersAndLaws();
        Collections.shuffle(lines.subList(Math.min(ahead, lines.size()), lines.size()), random);
        String text = String.join(random.nextInt(4) == 0 ? ";\n" : ";", lines) + (lines.isEmpty() ? "" : ";");
        return random.nextInt(6) == 0 ? spoilt(text) : text.substring(0, Math.min(text.length(), 700));
    }

    private int few(int bound, int usual) {
        return random.nextInt(3) == 0 ? random.nextInt(bound) : 1 + random.nextInt(usual);
    }

    private static String name(int i) {
        return String.valueOf((char) ('a' + i));
    }

    private void add(String line) {
        if (line.length() + 2 <= room) {
            room -= line.length() + 2;
            lines.add(line);
        }
    }

    private void pairs(String word, int firsts, int seconds, int most) {
        int count = most > 0 ? random.nextInt(most) : 0;
        for (int i = 0; i < count && firsts > 0 && seconds > 0; i++) {
            int first = random.nextInt(firsts);
            int second = random.nextInt(seconds);
            String line = word + " " + name(first) + " " + name(second);
            if (!lines.contains(line) && (first != second || word.equals("holds"))) {
                add(line);
            }
        }
    }

    private void happenings(int straws, int members) {
        int debates = random.nextInt(13);
        int stuffs = random.nextInt(4) == 0 ? random.nextInt(7) : random.nextInt(2);
        int nights = random.nextInt(5) == 0 ? 100 : 1 + random.nextInt(9);
        for (int i = 0; i < debates && straws > 0 && members > 0; i++) {
            add("debate " + name(random.nextInt(members)) + " " + name(random.nextInt(straws)) + " " + random.nextInt(nights));
        }
        for (int i = 0; i < stuffs && straws > 0; i++) {
            add("stuff " + name(random.nextInt(straws)) + " " + random.nextInt(nights));
        }
    }

    private void numbersAndLaws() {
        int[] damps = {0, 100, 49, 50, 51, random.nextInt(101), random.nextInt(101), random.nextInt(101)};
        if (random.nextInt(4) > 0) {
            add("damp " + damps[random.nextInt(damps.length)]);
        }
        if (random.nextInt(3) > 0) {
            add("seed " + random.nextInt(random.nextBoolean() ? 100000 : 10));
        }
        for (String law : Told.LAWS) {
            if (random.nextInt(2) == 0) {
                add("law " + law + " " + expression(random.nextInt(4)));
            }
        }
    }

    private String expression(int depth) {
        int kind = depth == 0 ? random.nextInt(2) : random.nextInt(8);
        if (kind == 0) {
            return String.valueOf(random.nextInt(4) == 0 ? random.nextInt(10000) : random.nextInt(random.nextBoolean() ? 4 : 60));
        }
        if (kind == 1) {
            return Told.NAMES.get(random.nextInt(Told.NAMES.size()));
        }
        if (kind == 2) {
            return "(not " + expression(depth - 1) + ")";
        }
        String joint = JOINTS[random.nextInt(JOINTS.length)];
        String both = expression(depth - 1) + joint + expression(depth - 1);
        return random.nextInt(3) == 0 || Told.COMPARED.contains(joint.trim()) ? "(" + both + ")" : both;
    }

    private String spoilt(String text) {
        int at = random.nextInt(text.length() + 1);
        int to = Math.min(text.length(), at + random.nextInt(3));
        String spoilt = text.substring(0, at) + SPOILT[random.nextInt(SPOILT.length)] + text.substring(to);
        return spoilt.substring(0, Math.min(spoilt.length(), 700));
    }
}
