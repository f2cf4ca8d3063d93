import java.math.BigInteger;
import java.util.ArrayList;
import java.util.Arrays;
import java.util.HashMap;
import java.util.List;
import java.util.Map;
import java.util.Set;
import java.util.TreeSet;

/** How it stands on a night, and how a night goes by: the second part of the document's terms, as it is worded there. */
final class Stand {
    private static final BigInteger MOST = BigInteger.TEN.pow(12);

    final Told told;
    int night = 0;
    int putOff = 0;
    final int[] full;
    final boolean[] shed;
    final int[] won;
    final int[] beaten;
    final List<Set<Integer>> held = new ArrayList<>();
    BigInteger last;

    // How a night goes otherwise than it does.
    boolean asItGoes = false;
    int tried = -1;
    int away = -1;

    Stand(Told told) {
        this.told = told;
        full = told.strawFull.stream().mapToInt(Integer::intValue).toArray();
        shed = new boolean[full.length];
        won = new int[told.members.size()];
        beaten = new int[told.members.size()];
        for (int member = 0; member < won.length; member++) {
            held.add(new TreeSet<>());
        }
        for (int[] one : told.holds) {
            held.get(one[0]).add(one[1]);
        }
        last = BigInteger.valueOf(told.seed == null ? 0 : told.seed);
    }

    Stand(Stand other) {
        told = other.told;
        night = other.night;
        putOff = other.putOff;
        full = other.full.clone();
        shed = other.shed.clone();
        won = other.won.clone();
        beaten = other.beaten.clone();
        for (Set<Integer> claims : other.held) {
            held.add(new TreeSet<>(claims));
        }
        last = other.last;
    }

    boolean isAgainst(int one, int other) {
        return told.contras.stream().anyMatch(pair -> pair[0] == one && pair[1] == other);
    }

    int force(int member, int claim) {
        int most = 0;
        for (int mine : held.get(member)) {
            if (isAgainst(mine, claim) || tried == 4 && isAgainst(claim, mine)) {
                most = Math.max(most, told.weights.get(mine));
            }
        }
        return most;
    }

    /** The law's value; null, if there is no such law, or with an error. */
    Long value(String law, int member, int straw) {
        int claim = told.strawClaims.get(straw);
        Map<String, Integer> names = new HashMap<>();
        names.put("weight", told.weights.get(claim));
        names.put("temper", told.tempers.get(claim));
        names.put("full", full[straw]);
        names.put("force", force(member, claim));
        names.put("wins", won[member]);
        names.put("held", held.get(member).size());
        names.put("night", night);
        Told.Knot knot = told.laws.get(law);
        BigInteger value = knot == null ? null : worked(knot, names);
        return value == null ? null : value.longValueExact();
    }

    private static BigInteger worked(Told.Knot knot, Map<String, Integer> names) {
        if (knot.right == null) {
            Integer name = names.get(knot.token);
            return name == null ? new BigInteger(knot.token) : BigInteger.valueOf(name);
        }
        BigInteger left = knot.left == null ? BigInteger.ZERO : worked(knot.left, names);
        BigInteger right = worked(knot.right, names);
        if (left == null || right == null) {
            return null;
        }
        BigInteger value = joined(knot.token, left, right);
        return value == null || value.abs().compareTo(MOST) > 0 ? null : value;
    }

    private static BigInteger joined(String token, BigInteger left, BigInteger right) {
        boolean one = left.signum() != 0;
        boolean other = right.signum() != 0;
        int order = left.compareTo(right);
        switch (token) {
            case "or":
                return bit(one || other);
            case "and":
                return bit(one && other);
            case "not":
                return bit(!other);
            case "<":
                return bit(order < 0);
            case "<=":
                return bit(order <= 0);
            case "=":
                return bit(order == 0);
            case "<>":
                return bit(order != 0);
            case ">=":
                return bit(order >= 0);
            case ">":
                return bit(order > 0);
            case "+":
                return left.add(right);
            case "-":
                return left.subtract(right);
            case "*":
                return left.multiply(right);
            default:
                return other ? left.divide(right) : null;
        }
    }

    private static BigInteger bit(boolean yes) {
        return yes ? BigInteger.ONE : BigInteger.ZERO;
    }

    private static int within(long value, int most) {
        return (int) Math.max(0, Math.min(most, value));
    }

    int lean(int member, int straw) {
        Long value = value("lean", member, straw);
        return value == null ? told.weights.get(told.strawClaims.get(straw)) * full[straw] / 100 : within(value, 999);
    }

    boolean wouldWin(int member, int straw) {
        return force(member, told.strawClaims.get(straw)) > lean(member, straw);
    }

    boolean debate(int member, int straw) {
        Long wear = value("wear", member, straw);
        Long turn = value("turn", member, straw);
        boolean wins = wouldWin(member, straw);
        if (wins) {
            won[member]++;
            int less = tried == 1 ? 0 : wear == null ? 10 : within(wear, 99);
            full[straw] = Math.max(0, full[straw] - less);
        } else {
            beaten[member]++;
            if (turn != null && turn != 0) {
                held.get(member).add(told.strawClaims.get(straw));
            }
        }
        return wins;
    }

    void pass(int nights) {
        for (int i = 0; i < nights; i++) {
            pass();
        }
    }

    void pass() {
        for (int[] stuff : told.stuffs) {
            if (stuff[1] == night) {
                full[stuff[0]] = 99;
                shed[stuff[0]] = false;
            }
        }
        for (int[] one : told.debates) {
            if (one[2] == night && one[0] != away) {
                if (shed[one[1]]) {
                    putOff++;
                } else {
                    debate(one[0], one[1]);
                }
            }
        }
        for (int straw = 0; straw < full.length; straw++) {
            if (!shed[straw]) {
                full[straw] = isDamp() ? Math.max(0, full[straw] - 1) : full[straw];
                shed[straw] = full[straw] == 0;
            }
        }
        night++;
    }

    private boolean isDamp() {
        int damp = tried == 0 || told.damp == null ? 0 : told.damp;
        if (asItGoes) {
            return damp >= 50;
        }
        if (damp == 0 || damp == 100) {
            return damp == 100;
        }
        last = last.multiply(BigInteger.valueOf(1103515245)).add(BigInteger.valueOf(12345)).mod(BigInteger.ONE.shiftLeft(31));
        return last.divide(BigInteger.valueOf(65536)).intValueExact() % 100 < damp;
    }

    int wonByAll() {
        return Arrays.stream(won).sum();
    }

    int beatenByAll() {
        return Arrays.stream(beaten).sum();
    }

    int inShed() {
        int count = 0;
        for (boolean one : shed) {
            count += one ? 1 : 0;
        }
        return count;
    }
}
