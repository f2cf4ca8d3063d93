import java.math.BigInteger;
import java.util.ArrayDeque;
import java.util.ArrayList;
import java.util.Arrays;
import java.util.Collection;
import java.util.Deque;
import java.util.List;
import java.util.NoSuchElementException;
import java.util.Set;
import java.util.TreeSet;

/** The class once more, in its plainest form: each call as the document words it, without a thought of speed or room. */
final class Plain {
    private static final int NONE = -1;

    /** One that was seen, or a strike (of: the one that it strikes). */
    private static final class Seen {
        int of = NONE;
        int nights;
        int member;
        int wins;
        boolean atLeast;
    }

    private final StringBuilder tape = new StringBuilder();
    private int fault = 0;
    private int place = NONE;
    private Told told;
    private Stand now;
    private Stand image = null;
    private final Deque<Stand> undone = new ArrayDeque<>();
    private final List<Seen> seen = new ArrayList<>();
    private int known = NONE;

    Plain() {
        try {
            told = new Told("");
        } catch (Told.Fault none) {
            throw new IllegalStateException(none);
        }
        now = new Stand(told);
    }

    int feed(int a, int b, int c, int d, int e) {
        if (tape.length() + 20 > 700) {
            return NONE;
        }
        for (int four : new int[] {a, b, c, d, e}) {
            tape.append((char) (four >>> 24)).append((char) (four >>> 16 & 255)).append((char) (four >>> 8 & 255));
            tape.append((char) (four & 255));
        }
        return tape.length();
    }

    int text(int n) {
        if (n < 0 || n > tape.length()) {
            return -2;
        }
        String text = tape.substring(0, n);
        tape.setLength(0);
        try {
            told = new Told(text);
        } catch (Told.Fault found) {
            fault = found.which;
            place = found.place;
            return NONE;
        }
        fault = 0;
        place = NONE;
        now = new Stand(told);
        image = null;
        undone.clear();
        seen.clear();
        known = NONE;
        return told.lines;
    }

    int fault(int what) {
        return what == 0 ? fault : what == 1 ? place : NONE;
    }

    int named(int what, int letters) {
        if (what < 0 || what > 2) {
            return NONE;
        }
        List<String> names = what == 0 ? told.claims : what == 1 ? told.straws : told.members;
        for (String name : names) {
            if (Check.letters(name) == letters) {
                return names.indexOf(name);
            }
        }
        return NONE;
    }

    int claim(int claim, int what) {
        if (!isClaim(claim)) {
            throw new IndexOutOfBoundsException();
        }
        if (what < 0 || what > 3) {
            throw new NoSuchElementException();
        }
        return what == 0 ? told.weights.get(claim) : what == 1 ? told.tempers.get(claim)
            : what == 2 ? bits(hitBy(claim)) : bits(foes(claim));
    }

    int straw(int straw, int what) {
        if (!isStraw(straw) || what < 0 || what > 2) {
            return NONE;
        }
        return what == 0 ? told.strawClaims.get(straw) : what == 1 ? now.full[straw] : now.shed[straw] ? 1 : 0;
    }

    int member(int member, int what) {
        if (!isMember(member) || what < 0 || what > 2) {
            return NONE;
        }
        return what == 0 ? bits(now.held.get(member)) : what == 1 ? now.won[member] : now.beaten[member];
    }

    int force(int member, int claim) {
        return isMember(member) && isClaim(claim) ? now.force(member, claim) : NONE;
    }

    long law(int what, int straw, int member) {
        if (what < 0 || what > 2 || !isStraw(straw) || !isMember(member)) {
            return Long.MIN_VALUE;
        }
        Long value = now.value(Told.LAWS.get(what), member, straw);
        return value == null ? Long.MIN_VALUE : value;
    }

    int debate(int member, int straw) {
        if (!isMember(member) || !isStraw(straw)) {
            return NONE;
        }
        if (now.shed[straw]) {
            return -2;
        }
        remember();
        return now.debate(member, straw) ? 1 : 0;
    }

    int take(int member, int claim) {
        if (!isMember(member) || !isClaim(claim) || now.held.get(member).contains(claim)) {
            return NONE;
        }
        remember();
        now.held.get(member).add(claim);
        return now.held.get(member).size();
    }

    boolean drop(int member, int claim) {
        if (!isMember(member) || !isClaim(claim) || !now.held.get(member).contains(claim)) {
            return false;
        }
        remember();
        now.held.get(member).remove(claim);
        return true;
    }

    private void remember() {
        undone.push(new Stand(now));
        if (undone.size() > 20) {
            undone.removeLast();
        }
    }

    int go(int n) {
        if (n < 0 || n > 200 || now.night + n > 9000) {
            return NONE;
        }
        now.pass(n);
        if (n > 0) {
            undone.clear();
        }
        return now.night;
    }

    private Stand trial() {
        Stand trial = new Stand(now);
        trial.asItGoes = true;
        return trial;
    }

    int ahead(int n, int what, int straw) {
        if (n < 0 || n > 200 || what < 0 || what > 4 || what == 2 && !isStraw(straw)) {
            return NONE;
        }
        Stand then = trial();
        then.pass(n);
        int[] answers = {then.wonByAll() - now.wonByAll(), then.beatenByAll() - now.beatenByAll(),
            what == 2 ? then.full[straw] : 0, then.inShed(), then.putOff - now.putOff};
        return answers[what];
    }

    int sheds(int straw) {
        if (!isStraw(straw)) {
            return NONE;
        }
        Stand then = trial();
        int nights = 0;
        while (nights < 199 && !then.shed[straw]) {
            then.pass();
            nights++;
        }
        return then.shed[straw] ? nights : -2;
    }

    // Sets of claims

    int set(int claims, int what) {
        if (claims < 0 || claims >= 1 << told.claims.size() || what < 0 || what > 2) {
            return NONE;
        }
        Set<Integer> set = claimsOf(claims);
        return (what == 0 ? isCalm(set) : what == 1 ? stands(set) : defendsItself(set)) ? 1 : 0;
    }

    private boolean isCalm(Set<Integer> set) {
        return told.contras.stream().noneMatch(pair -> set.contains(pair[0]) && set.contains(pair[1]));
    }

    private boolean hits(Set<Integer> set, int claim) {
        return set.stream().anyMatch(one -> now.isAgainst(one, claim));
    }

    private boolean stands(Set<Integer> set) {
        for (int claim = 0; claim < told.claims.size(); claim++) {
            if (!set.contains(claim) && !hits(set, claim)) {
                return false;
            }
        }
        return isCalm(set);
    }

    private boolean defendsItself(Set<Integer> set) {
        for (int[] pair : told.contras) {
            if (set.contains(pair[1]) && !hits(set, pair[0])) {
                return false;
            }
        }
        return isCalm(set);
    }

    private List<Integer> allThatStand() {
        List<Integer> all = new ArrayList<>();
        for (int set = 0; set < 1 << told.claims.size(); set++) {
            if (stands(claimsOf(set))) {
                all.add(set);
            }
        }
        return all;
    }

    int standing(int what) {
        List<Integer> all = allThatStand();
        if (what == 0) {
            return all.size();
        }
        if (what == 1) {
            return all.isEmpty() ? 0 : all.stream().reduce((one, other) -> one & other).get();
        }
        return what == 2 ? all.stream().reduce(0, (one, other) -> one | other) : NONE;
    }

    int stand(int k) {
        List<Integer> all = allThatStand();
        return k < 0 ? NONE : k < all.size() ? all.get(k) : -2;
    }

    int ground() {
        return bits(groundOf(told.contras));
    }

    private Set<Integer> groundOf(List<int[]> contras) {
        Set<Integer> ground = new TreeSet<>();
        for (int again = 0; again < 10; again++) {
            Set<Integer> grown = new TreeSet<>();
            for (int claim = 0; claim < told.claims.size(); claim++) {
                if (isAnswered(claim, ground, contras)) {
                    grown.add(claim);
                }
            }
            ground = grown;
        }
        return ground;
    }

    private static boolean isAnswered(int claim, Set<Integer> ground, List<int[]> contras) {
        for (int[] pair : contras) {
            if (pair[1] == claim && contras.stream().noneMatch(one -> one[1] == pair[0] && ground.contains(one[0]))) {
                return false;
            }
        }
        return true;
    }

    int largest() {
        int largest = 0;
        for (int set = (1 << told.claims.size()) - 1; set >= 0; set--) {
            if (defendsItself(claimsOf(set)) && Integer.bitCount(set) >= Integer.bitCount(largest)) {
                largest = set;
            }
        }
        return largest;
    }

    int replies(int claim, int what) {
        if (!isClaim(claim) || what < 0 || what > 1) {
            return NONE;
        }
        List<Integer> named = new ArrayList<>(List.of(claim));
        for (int reply : foes(claim)) {
            named.add(reply);
            boolean wins = !canWin(named);
            named.remove(1);
            if (wins) {
                return what == 0 ? 1 : reply;
            }
        }
        return what == 0 ? 0 : -2;
    }

    // Whether who is to reply to the one named last wins.
    private boolean canWin(List<Integer> named) {
        for (int reply : foes(named.get(named.size() - 1))) {
            if (!named.contains(reply)) {
                List<Integer> more = new ArrayList<>(named);
                more.add(reply);
                if (!canWin(more)) {
                    return true;
                }
            }
        }
        return false;
    }

    int weaker(int claim) {
        if (!isClaim(claim)) {
            return NONE;
        }
        int weakest = -2;
        for (int one = told.claims.size() - 1; one >= 0; one--) {
            if (one != claim && hitBy(one).containsAll(hitBy(claim))
                && (weakest == -2 || told.weights.get(one) <= told.weights.get(weakest))) {
                weakest = one;
            }
        }
        return weakest;
    }

    int dropFor(int claim, int what) {
        if (!isClaim(claim) || what < 0 || what > 2) {
            return NONE;
        }
        int[] dropped = {-2, -2, -2};
        int all = told.contras.size();
        boolean found = drops(claim, dropped);
        for (int first = 0; first < all && !found; first++) {
            found = drops(claim, dropped, first);
        }
        for (int first = 0; first < all && !found; first++) {
            for (int second = first + 1; second < all && !found; second++) {
                found = drops(claim, dropped, first, second);
            }
        }
        return dropped[what];
    }

    private boolean drops(int claim, int[] dropped, int... numbers) {
        List<int[]> left = new ArrayList<>(told.contras);
        for (int number : numbers) {
            left.remove(told.contras.get(number));
        }
        if (!groundOf(left).contains(claim)) {
            return false;
        }
        dropped[0] = numbers.length;
        System.arraycopy(numbers, 0, dropped, 1, numbers.length);
        return true;
    }

    // Two members, and members with straw

    int points(int one, int other) {
        if (!areTwo(one, other)) {
            return NONE;
        }
        Set<Integer> first = now.held.get(one);
        Set<Integer> second = now.held.get(other);
        int count = 0;
        for (int[] pair : told.contras) {
            boolean forth = first.contains(pair[0]) && second.contains(pair[1]);
            boolean either = second.contains(pair[0]) && first.contains(pair[1]);
            count += forth || either ? 1 : 0;
        }
        return count;
    }

    int agreed(int one, int other) {
        return areTwo(one, other) ? bits(now.held.get(one)) & bits(now.held.get(other)) : NONE;
    }

    int match(int what) {
        if (what < 0 || what > 5) {
            return NONE;
        }
        int[] best = null;
        int straws = told.straws.size();
        boolean[][] wins = new boolean[told.members.size()][straws];
        for (int member = 0; member < wins.length; member++) {
            for (int straw = 0; straw < straws; straw++) {
                wins[member][straw] = !now.shed[straw] && now.wouldWin(member, straw);
            }
        }
        // All ways in their order: each member's straw is a digit, the last digit is none.
        int[] ways = new int[told.members.size()];
        for (boolean more = true; more;) {
            if (isMatch(ways, wins) && (best == null || matched(ways) > matched(best))) {
                best = ways.clone();
            }
            int digit = ways.length - 1;
            while (digit >= 0 && ways[digit] == straws) {
                ways[digit] = 0;
                digit--;
            }
            more = digit >= 0;
            if (more) {
                ways[digit]++;
            }
        }
        if (what == 5) {
            return matched(best);
        }
        return what < best.length && best[what] < straws ? best[what] : -2;
    }

    private int matched(int[] ways) {
        return (int) Arrays.stream(ways).filter(straw -> straw < told.straws.size()).count();
    }

    private boolean isMatch(int[] ways, boolean[][] wins) {
        Set<Integer> taken = new TreeSet<>();
        for (int member = 0; member < ways.length; member++) {
            int straw = ways[member];
            if (isStraw(straw) && (!taken.add(straw) || !wins[member][straw])) {
                return false;
            }
        }
        return true;
    }

    private List<Integer> allRests(int one, int other) {
        int points = points(one, other);
        int shared = Integer.bitCount(agreed(one, other));
        // By what one does, then what the other one does.
        int[][] ones = {{now.held.get(one).size() - points, points}, {shared, 2 * shared}};
        int[][] others = {{now.held.get(other).size() - points, shared}, {points, 2 * shared}};
        List<Integer> rests = new ArrayList<>();
        for (int a = 0; a < 2; a++) {
            for (int b = 0; b < 2; b++) {
                if (ones[a][b] >= ones[1 - a][b] && others[a][b] >= others[a][1 - b]) {
                    rests.add(10 * a + b);
                }
            }
        }
        return rests;
    }

    int rests(int one, int other) {
        return areTwo(one, other) ? allRests(one, other).size() : NONE;
    }

    int rest(int one, int other, int k) {
        if (!areTwo(one, other) || k < 0) {
            return NONE;
        }
        List<Integer> rests = allRests(one, other);
        return k < rests.size() ? rests.get(k) : -2;
    }

    long dry(int n, int what) {
        if (n < 0 || n > 6 || what < 0 || what > 1) {
            return NONE;
        }
        BigInteger above = BigInteger.valueOf(100 - (told.damp == null ? 0 : told.damp)).pow(n);
        BigInteger below = BigInteger.valueOf(100).pow(n);
        return (what == 0 ? above : below).divide(above.gcd(below)).longValueExact();
    }

    // What was seen

    int see(int nights, int member, int wins, boolean atLeast) {
        if (nights < 1 || nights > 60 || !isMember(member) || wins < 0 || wins > 12 || seen.size() == 24) {
            return NONE;
        }
        Seen one = new Seen();
        one.nights = nights;
        one.member = member;
        one.wins = wins;
        one.atLeast = atLeast;
        seen.add(one);
        return seen.size() - 1;
    }

    int strike(int struck) {
        if (struck < 0 || struck >= seen.size() || seen.size() == 24) {
            return NONE;
        }
        Seen strike = new Seen();
        strike.of = struck;
        seen.add(strike);
        return seen.size() - 1;
    }

    boolean known(int n) {
        if (n < -1 || n > seen.size()) {
            return false;
        }
        known = n;
        return true;
    }

    private int knownBy() {
        return known == -1 ? seen.size() : known;
    }

    private boolean isStruck(int one) {
        for (int strike = one + 1; strike < knownBy(); strike++) {
            if (seen.get(strike).of == one && !isStruck(strike)) {
                return true;
            }
        }
        return false;
    }

    int held(int member) {
        if (!isMember(member)) {
            return NONE;
        }
        int bits = 0;
        for (int claim = 0; claim < told.claims.size(); claim++) {
            boolean fits = true;
            for (int one = 0; one < knownBy() && fits; one++) {
                fits = seen.get(one).of != NONE || isStruck(one) || isSo(seen.get(one), member, claim);
            }
            bits += fits ? 1 << claim : 0;
        }
        return bits;
    }

    private boolean isSo(Seen one, int member, int claim) {
        Stand trial = new Stand(told);
        trial.asItGoes = true;
        trial.held.get(member).clear();
        trial.held.get(member).add(claim);
        trial.pass(one.nights);
        return one.atLeast ? trial.won[one.member] >= one.wins : trial.won[one.member] < one.wins;
    }

    int ask(int member, int what) {
        if (!isMember(member) || what < 0 || what > 1) {
            return NONE;
        }
        Set<Integer> held = claimsOf(held(member));
        int best = 0;
        int fewest = Integer.MAX_VALUE;
        for (int weight = 0; weight <= 99; weight++) {
            int least = weight;
            int yes = (int) held.stream().filter(claim -> told.weights.get(claim) >= least).count();
            int worst = Math.max(yes, held.size() - yes);
            if (worst < fewest) {
                fewest = worst;
                best = weight;
            }
        }
        return what == 0 ? best : fewest;
    }

    int chance(int seed, int n, int straw) {
        if (seed < 0 || n < 1 || n > 99 || !isStraw(straw)) {
            return NONE;
        }
        int count = 0;
        BigInteger last = BigInteger.valueOf(seed);
        for (int time = 0; time < 10; time++) {
            Stand trial = new Stand(now);
            trial.last = last;
            trial.pass(n);
            last = trial.last;
            count += trial.shed[straw] ? 1 : 0;
        }
        return count;
    }

    int tried(int what, int i, int n) {
        if (what < 0 || what > 4 || n < 0 || n > 200 || (what == 2 ? !isMember(i) : i != 0)) {
            return NONE;
        }
        Stand trial = trial();
        trial.tried = what;
        trial.away = what == 2 ? i : NONE;
        if (what == 3) {
            Arrays.fill(trial.full, 99);
            Arrays.fill(trial.shed, false);
        }
        trial.pass(n);
        return trial.wonByAll() - now.wonByAll();
    }

    int undo() {
        if (undone.isEmpty()) {
            return NONE;
        }
        now = undone.pop();
        return undone.size();
    }

    int keep() {
        image = new Stand(now);
        return now.night;
    }

    int back() {
        if (image == null) {
            return NONE;
        }
        now = new Stand(image);
        undone.clear();
        return now.night;
    }

    int count(int what) {
        int[] counts = {told.claims.size(), told.contras.size(), told.straws.size(), told.members.size(), told.debates.size(),
            told.knots, now.night, now.wonByAll(), now.beatenByAll(), now.inShed(), now.putOff, Arrays.stream(now.full).sum(),
            now.held.stream().mapToInt(Set::size).sum(), seen.size(), knownBy(), undone.size()};
        return what >= 0 && what < counts.length ? counts[what] : NONE;
    }

    private boolean isClaim(int claim) {
        return claim >= 0 && claim < told.claims.size();
    }

    private boolean isStraw(int straw) {
        return straw >= 0 && straw < told.straws.size();
    }

    private boolean isMember(int member) {
        return member >= 0 && member < told.members.size();
    }

    private boolean areTwo(int one, int other) {
        return isMember(one) && isMember(other) && one != other;
    }

    private Set<Integer> hitBy(int claim) {
        Set<Integer> hit = new TreeSet<>();
        told.contras.stream().filter(pair -> pair[0] == claim).forEach(pair -> hit.add(pair[1]));
        return hit;
    }

    private Set<Integer> foes(int claim) {
        Set<Integer> foes = new TreeSet<>();
        told.contras.stream().filter(pair -> pair[1] == claim).forEach(pair -> foes.add(pair[0]));
        return foes;
    }

    private static int bits(Collection<Integer> claims) {
        return claims.stream().mapToInt(claim -> 1 << claim).sum();
    }

    private static Set<Integer> claimsOf(int bits) {
        Set<Integer> claims = new TreeSet<>();
        for (int claim = 0; claim < 8; claim++) {
            if ((bits >> claim & 1) == 1) {
                claims.add(claim);
            }
        }
        return claims;
    }
}
