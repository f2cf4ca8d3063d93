import java.util.NoSuchElementException;

/**
 * Straw men sent to the wars of words: claims, members who hold them, straw that is debated by night.
 * README.md tells how it is used; the document of the project tells what each call answers.
 */
public final class StrawMen {
    public static final int NONE = -1;

    private static final int NOT_SO = -2;
    // Long.MIN_VALUE: no value of a law can be as low, so it tells an error.
    private static final long ERROR = 1L << 63;

    private static final int TAPE_MOST = 700;
    private static final int FED_BYTES = 20;
    private static final int CLAIMS_MOST = 8;
    private static final int CONTRAS_MOST = 16;
    private static final int STRAWS_MOST = 5;
    private static final int MEMBERS_MOST = 5;
    private static final int DEBATES_MOST = 12;
    private static final int STUFFS_MOST = 6;
    private static final int TOLD_NIGHT_MOST = 99;
    private static final int KNOTS_MOST = 64;
    private static final int OPEN_MOST = 8;
    private static final int SEEN_MOST = 24;
    private static final int UNDO_MOST = 20;

    private static final int NIGHTS_MOST = 200;
    private static final int NIGHT_MOST = 9000;
    private static final int SHEDS_MOST = 199;
    private static final int DRY_MOST = 6;
    private static final int CHANCE_MOST = 99;
    private static final int CHANCES = 10;
    private static final int SEEN_NIGHTS_MOST = 60;
    private static final int SEEN_WINS_MOST = 12;

    private static final int FULL_MOST = 99;
    private static final int WEIGHT_MOST = 99;
    private static final int LEAN_MOST = 999;
    private static final int WEAR_MOST = 99;
    private static final int WEAR_UNTOLD = 10;
    private static final int DAMP_AS_IT_GOES = 50;
    private static final int HUNDRED = 100;

    private static final int LEAN = 0;
    private static final int WEAR = 1;
    private static final int TURN = 2;
    private static final int LAWS = 3;

    private static final int FAULT_TOKEN = 1;
    private static final int FAULT_TOO_MUCH = 2;
    private static final int FAULT_TWICE = 3;
    private static final int FAULT_UNTOLD = 4;
    private static final int FAULT_ITSELF = 5;

    // The words of the language, six signs each.
    private static final String WORDS = "claim contrastraw memberholds debatestuff damp  seed  law   lean  wear  turn  or    and   not   weighttemperfull  force wins  held  night ";
    private static final int WORD_LETTERS = 6;
    private static final int WORD_COUNT = 23;
    private static final int W_CLAIM = 0;
    private static final int W_CONTRA = 1;
    private static final int W_STRAW = 2;
    private static final int W_MEMBER = 3;
    private static final int W_HOLDS = 4;
    private static final int W_DEBATE = 5;
    private static final int W_STUFF = 6;
    private static final int W_DAMP = 7;
    private static final int W_SEED = 8;
    private static final int W_LAW = 9;
    private static final int W_LEAN = 10;
    private static final int W_OR = 13;
    private static final int W_AND = 14;
    private static final int W_NOT = 15;
    private static final int W_WEIGHT = 16;

    private static final int T_END = 0;
    private static final int T_NO_TOKEN = 1;
    private static final int T_NAME = 2;
    private static final int T_WORD = 3;
    private static final int T_NUMBER = 4;
    private static final int T_SEMICOLON = 5;
    private static final int T_OPEN = 6;
    private static final int T_CLOSE = 7;
    private static final int T_SIGN = 8;

    private static final int S_OR = 0;
    private static final int S_AND = 1;
    private static final int S_NOT = 2;
    private static final int S_LESS = 3;
    private static final int S_LESS_SAME = 4;
    private static final int S_SAME = 5;
    private static final int S_OTHER = 6;
    private static final int S_MORE_SAME = 7;
    private static final int S_MORE = 8;
    private static final int S_PLUS = 9;
    private static final int S_MINUS = 10;
    private static final int S_TIMES = 11;
    private static final int S_BY = 12;
    // How strongly each sign binds, the loosest first.
    private static final int[] SIGN_LEVELS = {0, 1, 2, 3, 3, 3, 3, 3, 3, 4, 4, 5, 5};
    private static final int LEVEL_NOT = 2;
    private static final int LEVEL_COMPARED = 3;
    private static final int LEVEL_PART = 6;

    // A knot of a law: a number as it is, a name or a sign behind these.
    private static final int NUMBER_MOST = 9999;
    private static final int KNOT_NAME = 10000;
    private static final int KNOT_SIGN = 20000;
    private static final long VALUE_MOST = 1000000000000L;

    private static final int NAMES = 7;
    private static final int N_WEIGHT = 0;
    private static final int N_TEMPER = 1;
    private static final int N_FULL = 2;
    private static final int N_FORCE = 3;
    private static final int N_WINS = 4;
    private static final int N_HELD = 5;
    private static final int N_NIGHT = 6;

    private final Reader reader;
    private int latestFault;
    private int faultPlace;
    private Script script;
    private Script spare;
    private final World now;
    private final World image;
    private final World trial;
    private boolean imageKept;
    private final Past past;
    private final Memory memory;
    private final Pairing pairing;

    public StrawMen() {
        script = new Script();
        spare = new Script();
        reader = new Reader(spare);
        latestFault = 0;
        faultPlace = NONE;
        now = new World(script);
        image = new World(script);
        trial = new World(script);
        imageKept = false;
        past = new Past();
        memory = new Memory();
        pairing = new Pairing();
    }

    public int feed(int a, int b, int c, int d, int e) {
        if (reader.fed + FED_BYTES > TAPE_MOST) {
            return NONE;
        }
        reader.append(a);
        reader.append(b);
        reader.append(c);
        reader.append(d);
        reader.append(e);
        return reader.fed;
    }

    public int text(int n) {
        if (n < 0 || n > reader.fed) {
            return NOT_SO;
        }
        reader.begin(n, spare);
        for (int i = 0; i < TAPE_MOST && reader.hasMore(); i++) {
            reader.line();
        }
        latestFault = reader.fault;
        faultPlace = reader.place;
        if (latestFault != 0) {
            return NONE;
        }
        Script told = spare;
        spare = script;
        script = told;
        now.begin(script);
        imageKept = false;
        past.clear();
        memory.clear();
        return script.lines;
    }

    public int fault(int what) {
        if (what == 0) {
            return latestFault;
        }
        return what == 1 ? faultPlace : NONE;
    }

    public int named(int what, int letters) {
        switch (what) {
            case 0:
                return script.claims.names.find(letters);
            case 1:
                return script.straws.find(letters);
            case 2:
                return script.members.find(letters);
            default:
                return NONE;
        }
    }

    public int claim(int claim, int what) throws IndexOutOfBoundsException, NoSuchElementException {
        if (!isClaim(claim)) {
            throw new IndexOutOfBoundsException("no such claim");
        }
        switch (what) {
            case 0:
                return script.claims.weightOf(claim);
            case 1:
                return script.claims.temperOf(claim);
            case 2:
                return script.claims.hitBy(claim);
            case 3:
                return script.claims.foesOf(claim);
            default:
                throw new NoSuchElementException("no such what");
        }
    }

    public int straw(int straw, int what) {
        if (!isStraw(straw)) {
            return NONE;
        }
        switch (what) {
            case 0:
                return script.claimOf(straw);
            case 1:
                return now.fullOf(straw);
            case 2:
                return now.inShed(straw) ? 1 : 0;
            default:
                return NONE;
        }
    }

    public int member(int member, int what) {
        if (!isMember(member)) {
            return NONE;
        }
        switch (what) {
            case 0:
                return now.holdsOf(member);
            case 1:
                return now.wonBy(member);
            case 2:
                return now.beatenOf(member);
            default:
                return NONE;
        }
    }

    public int force(int member, int claim) {
        if (!isMember(member) || !isClaim(claim)) {
            return NONE;
        }
        return now.forceOf(member, claim);
    }

    public long law(int what, int straw, int member) {
        if (what < 0 || what >= LAWS || !isStraw(straw) || !isMember(member)) {
            return ERROR;
        }
        now.readNames(member, straw);
        return now.lawValue(what);
    }

    public int debate(int member, int straw) {
        if (!isMember(member) || !isStraw(straw)) {
            return NONE;
        }
        if (now.inShed(straw)) {
            return NOT_SO;
        }
        past.record(now, member, straw);
        return now.contend(member, straw) ? 1 : 0;
    }

    public int take(int member, int claim) {
        if (!isMember(member) || !isClaim(claim) || now.holdsClaim(member, claim)) {
            return NONE;
        }
        past.record(now, member, NONE);
        now.setHolds(member, now.holdsOf(member) | 1 << claim);
        return Integer.bitCount(now.holdsOf(member));
    }

    public boolean drop(int member, int claim) {
        if (!isMember(member) || !isClaim(claim) || !now.holdsClaim(member, claim)) {
            return false;
        }
        past.record(now, member, NONE);
        now.setHolds(member, now.holdsOf(member) & ~(1 << claim));
        return true;
    }

    public int go(int n) {
        if (n < 0 || n > NIGHTS_MOST || now.night + n > NIGHT_MOST) {
            return NONE;
        }
        if (n > 0) {
            past.clear();
        }
        now.passNights(n);
        return now.night;
    }

    public int ahead(int n, int what, int straw) {
        if (n < 0 || n > NIGHTS_MOST || what < 0 || what > 4 || what == 2 && !isStraw(straw)) {
            return NONE;
        }
        startTrial();
        trial.passNights(n);
        switch (what) {
            case 0:
                return trial.wonByAll() - now.wonByAll();
            case 1:
                return trial.beatenByAll() - now.beatenByAll();
            case 2:
                return trial.fullOf(straw);
            case 3:
                return Integer.bitCount(trial.shed);
            default:
                return trial.putOff - now.putOff;
        }
    }

    public int sheds(int straw) {
        if (!isStraw(straw)) {
            return NONE;
        }
        startTrial();
        for (int nights = 0; nights <= SHEDS_MOST; nights++) {
            if (trial.inShed(straw)) {
                return nights;
            }
            trial.passNight();
        }
        return NOT_SO;
    }

    public int set(int claims, int what) {
        if (claims < 0 || claims > script.claims.all()) {
            return NONE;
        }
        switch (what) {
            case 0:
                return script.claims.isCalm(claims) ? 1 : 0;
            case 1:
                return script.claims.isStanding(claims) ? 1 : 0;
            case 2:
                return script.claims.isDefended(claims) ? 1 : 0;
            default:
                return NONE;
        }
    }

    public int standing(int what) {
        switch (what) {
            case 0:
                return script.claims.standingCount();
            case 1:
                return script.claims.inAllStanding();
            case 2:
                return script.claims.inAnyStanding();
            default:
                return NONE;
        }
    }

    public int stand(int k) {
        return k < 0 ? NONE : script.claims.standingAt(k);
    }

    public int ground() {
        return script.claims.groundWithout(NONE, NONE);
    }

    public int largest() {
        return script.claims.largestDefended();
    }

    public int replies(int claim, int what) {
        if (!isClaim(claim) || what < 0 || what > 1) {
            return NONE;
        }
        int reply = script.claims.winningReply(claim);
        if (what == 1) {
            return reply == NONE ? NOT_SO : reply;
        }
        return reply == NONE ? 0 : 1;
    }

    public int weaker(int claim) {
        return isClaim(claim) ? script.claims.weakerThan(claim) : NONE;
    }

    public int dropFor(int claim, int what) {
        if (!isClaim(claim) || what < 0 || what > 2) {
            return NONE;
        }
        return script.claims.dropped(claim, what);
    }

    public int points(int one, int other) {
        if (!areTwo(one, other)) {
            return NONE;
        }
        return pointsOf(one, other);
    }

    public int agreed(int one, int other) {
        if (!areTwo(one, other)) {
            return NONE;
        }
        return now.holdsOf(one) & now.holdsOf(other);
    }

    public int match(int what) {
        if (what < 0 || what > MEMBERS_MOST) {
            return NONE;
        }
        pairing.pair(now);
        return what == MEMBERS_MOST ? pairing.pairs : pairing.strawOf(what);
    }

    public int rests(int one, int other) {
        if (!areTwo(one, other)) {
            return NONE;
        }
        int count = 0;
        for (int ways = 0; ways < 4; ways++) {
            if (isRest(one, other, ways)) {
                count++;
            }
        }
        return count;
    }

    public int rest(int one, int other, int k) {
        if (!areTwo(one, other) || k < 0) {
            return NONE;
        }
        int left = k;
        for (int ways = 0; ways < 4; ways++) {
            if (isRest(one, other, ways)) {
                if (left == 0) {
                    return 10 * (ways >> 1) + (ways & 1);
                }
                left--;
            }
        }
        return NOT_SO;
    }

    public long dry(int n, int what) {
        if (n < 0 || n > DRY_MOST || what < 0 || what > 1) {
            return NONE;
        }
        int dryOfHundred = HUNDRED - script.damp;
        int shared = commonDivisor(dryOfHundred, HUNDRED);
        int part = what == 0 ? dryOfHundred : HUNDRED;
        long factor = shared > 0 ? part / shared : part;
        long product = 1;
        for (int i = 0; i < n; i++) {
            product *= factor;
        }
        return product;
    }

    public int see(int nights, int member, int wins, boolean atLeast) {
        if (nights < 1 || nights > SEEN_NIGHTS_MOST || !isMember(member) || wins < 0 || wins > SEEN_WINS_MOST) {
            return NONE;
        }
        return memory.addSeen(nights, member, wins, atLeast);
    }

    public int strike(int seen) {
        return memory.addStrike(seen);
    }

    public boolean known(int n) {
        if (n < NONE || n > memory.size) {
            return false;
        }
        memory.knownBy = n;
        return true;
    }

    public int held(int member) {
        return isMember(member) ? heldBits(member) : NONE;
    }

    public int ask(int member, int what) {
        if (!isMember(member) || what < 0 || what > 1) {
            return NONE;
        }
        int suspects = heldBits(member);
        int all = Integer.bitCount(suspects);
        int bestWeight = 0;
        int bestLeft = all;
        for (int weight = 0; weight <= WEIGHT_MOST; weight++) {
            int heavy = script.claims.countHeavy(suspects, weight);
            int left = Math.max(heavy, all - heavy);
            if (left < bestLeft) {
                bestLeft = left;
                bestWeight = weight;
            }
        }
        return what == 0 ? bestWeight : bestLeft;
    }

    public int chance(int seed, int n, int straw) {
        if (seed < 0 || n < 1 || n > CHANCE_MOST || !isStraw(straw)) {
            return NONE;
        }
        int sheds = 0;
        int last = seed;
        for (int time = 0; time < CHANCES; time++) {
            trial.copyFrom(now);
            trial.last = last;
            trial.passNights(n);
            last = trial.last;
            if (trial.inShed(straw)) {
                sheds++;
            }
        }
        return sheds;
    }

    public int tried(int what, int i, int n) {
        if (n < 0 || n > NIGHTS_MOST || what < 0 || what > 4) {
            return NONE;
        }
        if (what == 2 ? !isMember(i) : i != 0) {
            return NONE;
        }
        startTrial();
        trial.noDamp = what == 0;
        trial.noWear = what == 1;
        trial.absent = what == 2 ? i : NONE;
        if (what == 3) {
            trial.stuffAll();
        }
        trial.bothWays = what == 4;
        trial.passNights(n);
        return trial.wonByAll() - now.wonByAll();
    }

    public int undo() {
        return past.takeBack(now);
    }

    public int keep() {
        image.copyFrom(now);
        imageKept = true;
        return now.night;
    }

    public int back() {
        if (!imageKept) {
            return NONE;
        }
        now.copyFrom(image);
        past.clear();
        return now.night;
    }

    public int count(int what) {
        return what < 6 ? countTold(what) : countNow(what);
    }

    private boolean isClaim(int claim) {
        return claim >= 0 && claim < script.claims.names.size;
    }

    private boolean isStraw(int straw) {
        return straw >= 0 && straw < script.straws.size;
    }

    private boolean isMember(int member) {
        return member >= 0 && member < script.members.size;
    }

    private boolean areTwo(int one, int other) {
        return isMember(one) && isMember(other) && one != other;
    }

    private void startTrial() {
        trial.copyFrom(now);
        trial.drawn = false;
    }

    private int pointsOf(int one, int other) {
        return script.claims.contrasBetween(now.holdsOf(one), now.holdsOf(other));
    }

    // ways: 2 for the first one's agreeing, 1 for the second one's.
    private boolean isRest(int one, int other, int ways) {
        int first = ways >> 1;
        int second = ways & 1;
        return staysWith(one, other, first, second) && staysWith(other, one, second, first);
    }

    private boolean staysWith(int one, int other, int mine, int others) {
        return gain(one, other, mine, others) >= gain(one, other, 1 - mine, others);
    }

    private int gain(int one, int other, int mine, int others) {
        int points = pointsOf(one, other);
        int shared = Integer.bitCount(now.holdsOf(one) & now.holdsOf(other));
        if (mine == 0) {
            return others == 0 ? Integer.bitCount(now.holdsOf(one)) - points : points;
        }
        return others == 0 ? shared : 2 * shared;
    }

    private static int commonDivisor(int one, int other) {
        int a = one;
        int b = other;
        for (int i = 0; i < HUNDRED && b > 0; i++) {
            int left = a % b;
            a = b;
            b = left;
        }
        return a;
    }

    private int heldBits(int member) {
        int asked = memory.knownOnes();
        int last = memory.latestNight(asked);
        int bits = 0;
        for (int claim = 0; claim < script.claims.names.size; claim++) {
            trial.begin(script);
            trial.drawn = false;
            trial.setHolds(member, 1 << claim);
            boolean fits = true;
            for (int night = 1; night <= last && fits; night++) {
                trial.passNight();
                fits = memory.isBorneOut(asked, trial);
            }
            if (fits) {
                bits |= 1 << claim;
            }
        }
        return bits;
    }

    private int countTold(int what) {
        switch (what) {
            case 0:
                return script.claims.names.size;
            case 1:
                return script.claims.contras;
            case 2:
                return script.straws.size;
            case 3:
                return script.members.size;
            case 4:
                return script.debates;
            case 5:
                return script.knots;
            default:
                return NONE;
        }
    }

    private int countNow(int what) {
        switch (what) {
            case 6:
                return now.night;
            case 7:
                return now.wonByAll();
            case 8:
                return now.beatenByAll();
            case 9:
                return Integer.bitCount(now.shed);
            case 10:
                return now.putOff;
            case 11:
                return now.fullOfAll();
            case 12:
                return now.heldByAll();
            case 13:
                return memory.size;
            case 14:
                return memory.knownLimit();
            case 15:
                return past.size;
            default:
                return NONE;
        }
    }

    /** The names of one kind, numbered as they come. */
    private static final class Roll {
        final int[] letters;
        final int most;
        int size;

        Roll(int most) {
            letters = new int[CLAIMS_MOST];
            this.most = most;
            size = 0;
        }

        boolean hasRoom() {
            return size < most && size < letters.length;
        }

        void add(int name) {
            if (hasRoom()) {
                letters[size] = name;
                size++;
            }
        }

        int find(int name) {
            for (int i = 0; i < size && i < letters.length; i++) {
                if (letters[i] == name) {
                    return i;
                }
            }
            return NONE;
        }
    }

    /** The claims, which stands against which, and what follows from that alone. Sets of claims are bits. */
    private static final class Claims {
        final Roll names;
        final int[] weight;
        final int[] temper;
        final int[] hits;
        final int[] foes;
        int contras;
        final int[] contraFrom;
        final int[] contraTo;
        final int[] keptHits;
        final int[] keptFoes;
        int firstDrop;
        int secondDrop;

        Claims() {
            names = new Roll(CLAIMS_MOST);
            weight = new int[CLAIMS_MOST];
            temper = new int[CLAIMS_MOST];
            hits = new int[CLAIMS_MOST];
            foes = new int[CLAIMS_MOST];
            contras = 0;
            contraFrom = new int[CONTRAS_MOST];
            contraTo = new int[CONTRAS_MOST];
            keptHits = new int[CLAIMS_MOST];
            keptFoes = new int[CLAIMS_MOST];
            firstDrop = NOT_SO;
            secondDrop = NOT_SO;
        }

        void clear() {
            names.size = 0;
            contras = 0;
            for (int i = 0; i < CLAIMS_MOST; i++) {
                hits[i] = 0;
                foes[i] = 0;
            }
        }

        void add(int name, int heavy, int hot) {
            if (names.hasRoom()) {
                weight[names.size] = heavy;
                temper[names.size] = hot;
                names.add(name);
            }
        }

        void addContra(int from, int to) {
            if (contras < CONTRAS_MOST && isOne(from) && isOne(to)) {
                contraFrom[contras] = from;
                contraTo[contras] = to;
                contras++;
                hits[from] |= 1 << to;
                foes[to] |= 1 << from;
            }
        }

        boolean isOne(int claim) {
            return claim >= 0 && claim < names.size && claim < CLAIMS_MOST;
        }

        int all() {
            return (1 << names.size) - 1;
        }

        int weightOf(int claim) {
            return claim >= 0 && claim < CLAIMS_MOST ? weight[claim] : 0;
        }

        int temperOf(int claim) {
            return claim >= 0 && claim < CLAIMS_MOST ? temper[claim] : 0;
        }

        int hitBy(int claim) {
            return claim >= 0 && claim < CLAIMS_MOST ? hits[claim] : 0;
        }

        int foesOf(int claim) {
            return claim >= 0 && claim < CLAIMS_MOST ? foes[claim] : 0;
        }

        int mostWeight(int set) {
            int most = 0;
            for (int i = 0; i < CLAIMS_MOST; i++) {
                if ((set >> i & 1) == 1 && weight[i] > most) {
                    most = weight[i];
                }
            }
            return most;
        }

        int countHeavy(int set, int least) {
            int count = 0;
            for (int i = 0; i < CLAIMS_MOST; i++) {
                if ((set >> i & 1) == 1 && weight[i] >= least) {
                    count++;
                }
            }
            return count;
        }

        int hitByAny(int set) {
            int hit = 0;
            for (int i = 0; i < CLAIMS_MOST; i++) {
                if ((set >> i & 1) == 1) {
                    hit |= hits[i];
                }
            }
            return hit;
        }

        int foesOfAny(int set) {
            int against = 0;
            for (int i = 0; i < CLAIMS_MOST; i++) {
                if ((set >> i & 1) == 1) {
                    against |= foes[i];
                }
            }
            return against;
        }

        boolean isCalm(int set) {
            return (hitByAny(set) & set) == 0;
        }

        boolean isStanding(int set) {
            int hit = hitByAny(set);
            return (hit & set) == 0 && (hit | set) == all();
        }

        boolean isDefended(int set) {
            int hit = hitByAny(set);
            return (hit & set) == 0 && (foesOfAny(set) & ~hit) == 0;
        }

        int standingCount() {
            int all = all();
            int count = 0;
            for (int set = 0; set <= all; set++) {
                if (isStanding(set)) {
                    count++;
                }
            }
            return count;
        }

        int inAllStanding() {
            int all = all();
            int shared = all;
            boolean any = false;
            for (int set = 0; set <= all; set++) {
                if (isStanding(set)) {
                    shared &= set;
                    any = true;
                }
            }
            return any ? shared : 0;
        }

        int inAnyStanding() {
            int all = all();
            int some = 0;
            for (int set = 0; set <= all; set++) {
                if (isStanding(set)) {
                    some |= set;
                }
            }
            return some;
        }

        int standingAt(int k) {
            int all = all();
            int left = k;
            for (int set = 0; set <= all; set++) {
                if (isStanding(set)) {
                    if (left == 0) {
                        return set;
                    }
                    left--;
                }
            }
            return NOT_SO;
        }

        int largestDefended() {
            int all = all();
            int largest = 0;
            for (int set = 0; set <= all; set++) {
                if (Integer.bitCount(set) > Integer.bitCount(largest) && isDefended(set)) {
                    largest = set;
                }
            }
            return largest;
        }

        int groundWithout(int one, int other) {
            keepWithout(one, other);
            int ground = 0;
            int grown = defendedBy(ground);
            for (int round = 0; round < CLAIMS_MOST && grown != ground; round++) {
                ground = grown;
                grown = defendedBy(ground);
            }
            return ground;
        }

        private void keepWithout(int one, int other) {
            for (int i = 0; i < CLAIMS_MOST; i++) {
                keptHits[i] = 0;
                keptFoes[i] = 0;
            }
            for (int i = 0; i < contras && i < CONTRAS_MOST; i++) {
                int from = contraFrom[i];
                int to = contraTo[i];
                if (i != one && i != other && isOne(from) && isOne(to)) {
                    keptHits[from] |= 1 << to;
                    keptFoes[to] |= 1 << from;
                }
            }
        }

        private int defendedBy(int set) {
            int hit = 0;
            for (int i = 0; i < CLAIMS_MOST; i++) {
                if ((set >> i & 1) == 1) {
                    hit |= keptHits[i];
                }
            }
            int defended = 0;
            for (int i = 0; i < names.size && i < CLAIMS_MOST; i++) {
                if ((keptFoes[i] & ~hit) == 0) {
                    defended |= 1 << i;
                }
            }
            return defended;
        }

        int winningReply(int claim) {
            return replyTo(foes, claim, 1 << claim, 0);
        }

        // The first reply to the claim named last that wins; each reply names one more, so depth stays below nine.
        private static int replyTo(int[] against, int last, int named, int depth) {
            if (depth > CLAIMS_MOST || last < 0 || last >= against.length) {
                return NONE;
            }
            int open = against[last] & ~named;
            for (int i = 0; i < CLAIMS_MOST; i++) {
                if ((open >> i & 1) == 1 && replyTo(against, i, named | 1 << i, depth + 1) == NONE) {
                    return i;
                }
            }
            return NONE;
        }

        int weakerThan(int claim) {
            int weakest = NOT_SO;
            int needed = hitBy(claim);
            for (int i = 0; i < names.size && i < CLAIMS_MOST; i++) {
                boolean does = i != claim && (needed & ~hits[i]) == 0;
                if (does && (weakest == NOT_SO || weight[i] < weightOf(weakest))) {
                    weakest = i;
                }
            }
            return weakest;
        }

        // what 0: how many contra are dropped, 1, 2: the first, the second one.
        int dropped(int claim, int what) {
            firstDrop = NOT_SO;
            secondDrop = NOT_SO;
            int fewest = NOT_SO;
            if (isGround(claim, NONE, NONE)) {
                fewest = 0;
            } else if (dropsOne(claim)) {
                fewest = 1;
            } else if (dropsTwo(claim)) {
                fewest = 2;
            }
            if (what == 0) {
                return fewest;
            }
            return what == 1 ? firstDrop : secondDrop;
        }

        private boolean isGround(int claim, int one, int other) {
            return (groundWithout(one, other) >> claim & 1) == 1;
        }

        private boolean dropsOne(int claim) {
            for (int i = 0; i < contras; i++) {
                if (isGround(claim, i, NONE)) {
                    firstDrop = i;
                    return true;
                }
            }
            return false;
        }

        private boolean dropsTwo(int claim) {
            for (int i = 0; i < contras; i++) {
                for (int j = i + 1; j < contras; j++) {
                    if (isGround(claim, i, j)) {
                        firstDrop = i;
                        secondDrop = j;
                        return true;
                    }
                }
            }
            return false;
        }

        int contrasBetween(int one, int other) {
            int count = 0;
            for (int i = 0; i < contras && i < CONTRAS_MOST; i++) {
                int from = 1 << contraFrom[i];
                int to = 1 << contraTo[i];
                boolean forth = (one & from) != 0 && (other & to) != 0;
                boolean backwards = (other & from) != 0 && (one & to) != 0;
                if (forth || backwards) {
                    count++;
                }
            }
            return count;
        }
    }

    /** One law, kept as knots each of which comes behind what it joins. */
    private static final class Law {
        boolean told;
        int size;
        final int[] knots;
        final long[] stack;

        Law() {
            told = false;
            size = 0;
            knots = new int[KNOTS_MOST];
            stack = new long[KNOTS_MOST];
        }

        void clear() {
            told = false;
            size = 0;
        }

        void add(int knot) {
            if (size < KNOTS_MOST) {
                knots[size] = knot;
                size++;
            }
        }

        long value(long[] names) {
            int top = 0;
            for (int i = 0; i < size && i < KNOTS_MOST; i++) {
                int knot = knots[i];
                if (knot == KNOT_SIGN + S_NOT) {
                    if (top < 1 || top > KNOTS_MOST) {
                        return ERROR;
                    }
                    stack[top - 1] = stack[top - 1] == 0 ? 1 : 0;
                } else if (knot >= KNOT_SIGN) {
                    if (top < 2 || top > KNOTS_MOST) {
                        return ERROR;
                    }
                    top--;
                    long value = joined(knot - KNOT_SIGN, stack[top - 1], stack[top]);
                    if (value > VALUE_MOST || value < -VALUE_MOST) {
                        return ERROR;
                    }
                    stack[top - 1] = value;
                } else {
                    int name = knot - KNOT_NAME;
                    if (top >= KNOTS_MOST || name >= names.length) {
                        return ERROR;
                    }
                    stack[top] = name < 0 ? knot : names[name];
                    top++;
                }
            }
            return top == 1 ? stack[0] : ERROR;
        }

        // ERROR, if there is no such value; whether it is within bounds is for the caller to see.
        private static long joined(int sign, long left, long right) {
            switch (sign) {
                case S_OR:
                    return left != 0 || right != 0 ? 1 : 0;
                case S_AND:
                    return left != 0 && right != 0 ? 1 : 0;
                case S_LESS:
                    return left < right ? 1 : 0;
                case S_LESS_SAME:
                    return left <= right ? 1 : 0;
                case S_SAME:
                    return left == right ? 1 : 0;
                case S_OTHER:
                    return left != right ? 1 : 0;
                case S_MORE_SAME:
                    return left >= right ? 1 : 0;
                case S_MORE:
                    return left > right ? 1 : 0;
                case S_PLUS:
                    return left + right;
                case S_MINUS:
                    return left - right;
                case S_TIMES:
                    // A product that a long can't hold has come round and doesn't divide back.
                    return left != 0 && left * right / left != right ? ERROR : left * right;
                default:
                    return right == 0 ? ERROR : left / right;
            }
        }
    }

    /** All that a text tells. */
    private static final class Script {
        final Claims claims;
        final Roll straws;
        final int[] strawClaim;
        final int[] strawFull;
        final Roll members;
        final int[] memberHolds;
        int debates;
        final int[] debateMember;
        final int[] debateStraw;
        final int[] debateNight;
        int stuffs;
        final int[] stuffStraw;
        final int[] stuffNight;
        int damp;
        boolean dampTold;
        int seed;
        boolean seedTold;
        final Law[] laws;
        int knots;
        int lines;

        Script() {
            claims = new Claims();
            straws = new Roll(STRAWS_MOST);
            strawClaim = new int[STRAWS_MOST];
            strawFull = new int[STRAWS_MOST];
            members = new Roll(MEMBERS_MOST);
            memberHolds = new int[MEMBERS_MOST];
            debates = 0;
            debateMember = new int[DEBATES_MOST];
            debateStraw = new int[DEBATES_MOST];
            debateNight = new int[DEBATES_MOST];
            stuffs = 0;
            stuffStraw = new int[STUFFS_MOST];
            stuffNight = new int[STUFFS_MOST];
            damp = 0;
            dampTold = false;
            seed = 0;
            seedTold = false;
            laws = new Law[LAWS];
            for (int i = 0; i < LAWS; i++) {
                laws[i] = new Law();
            }
            knots = 0;
            lines = 0;
        }

        void clear() {
            claims.clear();
            straws.size = 0;
            members.size = 0;
            debates = 0;
            stuffs = 0;
            damp = 0;
            dampTold = false;
            seed = 0;
            seedTold = false;
            for (int i = 0; i < LAWS; i++) {
                laws[i].clear();
            }
            knots = 0;
            lines = 0;
        }

        void addStraw(int name, int claim, int full) {
            if (straws.hasRoom() && straws.size < STRAWS_MOST) {
                strawClaim[straws.size] = claim;
                strawFull[straws.size] = full;
                straws.add(name);
            }
        }

        void addMember(int name) {
            if (members.hasRoom() && members.size < MEMBERS_MOST) {
                memberHolds[members.size] = 0;
                members.add(name);
            }
        }

        boolean isHeld(int member, int claim) {
            return member >= 0 && member < MEMBERS_MOST && (memberHolds[member] >> claim & 1) == 1;
        }

        void addHeld(int member, int claim) {
            if (member >= 0 && member < MEMBERS_MOST) {
                memberHolds[member] |= 1 << claim;
            }
        }

        void addDebate(int member, int straw, int night) {
            if (debates < DEBATES_MOST) {
                debateMember[debates] = member;
                debateStraw[debates] = straw;
                debateNight[debates] = night;
                debates++;
            }
        }

        void addStuff(int straw, int night) {
            if (stuffs < STUFFS_MOST) {
                stuffStraw[stuffs] = straw;
                stuffNight[stuffs] = night;
                stuffs++;
            }
        }

        int claimOf(int straw) {
            return straw >= 0 && straw < STRAWS_MOST ? strawClaim[straw] : NONE;
        }
    }

    /** The tape, and how it is read into a script up to the first fault. One token is looked at ahead. */
    private static final class Reader {
        final byte[] tape;
        int fed;
        final int[] language;
        int length;
        Script script;
        Law law;
        int at;
        int kind;
        int start;
        int before;
        int letters;
        int word;
        int number;
        int sign;
        int fault;
        int place;

        Reader(Script script) {
            tape = new byte[TAPE_MOST];
            fed = 0;
            this.script = script;
            law = script.laws[LEAN];
            language = new int[WORD_COUNT];
            for (int i = 0; i < WORD_COUNT; i++) {
                language[i] = packed(i * WORD_LETTERS);
            }
            place = NONE;
        }

        private static int packed(int from) {
            int packed = 0;
            for (int i = from; i < from + WORD_LETTERS && i < WORDS.length(); i++) {
                char letter = WORDS.charAt(i);
                packed = packed << 5 | (letter == ' ' ? 0 : letter - 'a' + 1);
            }
            return packed;
        }

        void append(int four) {
            for (int shift = 24; shift >= 0; shift -= 8) {
                if (fed < TAPE_MOST) {
                    tape[fed] = (byte) (four >> shift);
                    fed++;
                }
            }
        }

        // The tape is empty for what is fed next; its bytes stay until the text is read.
        void begin(int bytes, Script target) {
            length = Math.min(bytes, TAPE_MOST);
            fed = 0;
            script = target;
            script.clear();
            at = 0;
            start = 0;
            fault = 0;
            place = NONE;
            next();
        }

        boolean hasMore() {
            return fault == 0 && kind != T_END;
        }

        private void fail(int which, int where) {
            if (fault == 0) {
                fault = which;
                place = where;
            }
        }

        private void next() {
            before = start;
            while (at < length && at < TAPE_MOST && (tape[at] == 10 || tape[at] == 32)) {
                at++;
            }
            start = at;
            sign = NONE;
            word = NONE;
            if (at >= length || at >= TAPE_MOST) {
                kind = T_END;
            } else if (tape[at] >= 'a' && tape[at] <= 'z') {
                readWord();
            } else if (tape[at] >= '0' && tape[at] <= '9') {
                readNumber();
            } else {
                readSign(tape[at]);
            }
        }

        private void readWord() {
            letters = 0;
            int shift = 25;
            while (at < length && at < TAPE_MOST && tape[at] >= 'a' && tape[at] <= 'z') {
                if (shift >= 0) {
                    letters |= (tape[at] - 'a' + 1) << shift;
                }
                shift -= 5;
                at++;
            }
            kind = shift < -5 ? T_NO_TOKEN : T_NAME;
            for (int i = 0; i < WORD_COUNT && kind == T_NAME; i++) {
                if (language[i] == letters) {
                    word = i;
                    kind = T_WORD;
                }
            }
            if (word == W_OR || word == W_AND) {
                kind = T_SIGN;
                sign = word == W_OR ? S_OR : S_AND;
            }
        }

        private void readNumber() {
            kind = T_NUMBER;
            number = 0;
            while (at < length && at < TAPE_MOST && tape[at] >= '0' && tape[at] <= '9') {
                // A number of six digits is above all bounds, so it needn't grow beyond an int.
                number = number < 100000 ? number * 10 + (tape[at] - '0') : number;
                at++;
            }
        }

        private void readSign(int first) {
            int second = at + 1 < length && at + 1 < TAPE_MOST ? tape[at + 1] : 0;
            at++;
            kind = T_SIGN;
            switch (first) {
                case ';':
                    kind = T_SEMICOLON;
                    break;
                case '(':
                    kind = T_OPEN;
                    break;
                case ')':
                    kind = T_CLOSE;
                    break;
                case '<':
                    sign = second == '=' ? S_LESS_SAME : second == '>' ? S_OTHER : S_LESS;
                    break;
                case '>':
                    sign = second == '=' ? S_MORE_SAME : S_MORE;
                    break;
                case '=':
                    sign = S_SAME;
                    break;
                case '+':
                    sign = S_PLUS;
                    break;
                case '-':
                    sign = S_MINUS;
                    break;
                case '*':
                    sign = S_TIMES;
                    break;
                case '/':
                    sign = S_BY;
                    break;
                default:
                    kind = T_NO_TOKEN;
            }
            if (sign == S_LESS_SAME || sign == S_OTHER || sign == S_MORE_SAME) {
                at++;
            }
        }

        void line() {
            switch (kind == T_WORD ? word : NONE) {
                case W_CLAIM:
                    claimLine();
                    break;
                case W_CONTRA:
                    contraLine();
                    break;
                case W_STRAW:
                    strawLine();
                    break;
                case W_MEMBER:
                    memberLine();
                    break;
                case W_HOLDS:
                    holdsLine();
                    break;
                case W_DEBATE:
                    debateLine();
                    break;
                case W_STUFF:
                    stuffLine();
                    break;
                case W_DAMP:
                    dampLine();
                    break;
                case W_SEED:
                    seedLine();
                    break;
                case W_LAW:
                    lawLine();
                    break;
                default:
                    fail(FAULT_TOKEN, start);
            }
            pass(T_SEMICOLON);
            if (fault == 0) {
                script.lines++;
            }
        }

        private void pass(int wanted) {
            if (kind != wanted) {
                fail(FAULT_TOKEN, start);
            }
            if (fault == 0) {
                next();
            }
        }

        // Passes a word of the language, if it is fine that it comes here.
        private void passWord(boolean fine, int otherwise) {
            if (!fine) {
                fail(otherwise, start);
            }
            pass(T_WORD);
        }

        private int freshName(Roll roll) {
            int name = letters;
            if (kind == T_NAME && roll.find(name) != NONE) {
                fail(FAULT_TWICE, start);
            }
            pass(T_NAME);
            return name;
        }

        private int toldName(Roll roll) {
            int found = roll.find(letters);
            if (kind == T_NAME && found == NONE) {
                fail(FAULT_UNTOLD, start);
            }
            pass(T_NAME);
            return found;
        }

        private int numberWithin(int least, int most) {
            int value = number;
            if (kind == T_NUMBER && (value < least || value > most)) {
                fail(FAULT_TOO_MUCH, start);
            }
            pass(T_NUMBER);
            return value;
        }

        private void claimLine() {
            passWord(script.claims.names.hasRoom(), FAULT_TOO_MUCH);
            int name = freshName(script.claims.names);
            int weight = numberWithin(0, WEIGHT_MOST);
            int temper = numberWithin(0, 9);
            if (fault == 0) {
                script.claims.add(name, weight, temper);
            }
        }

        private void contraLine() {
            passWord(script.claims.contras < CONTRAS_MOST, FAULT_TOO_MUCH);
            int first = toldName(script.claims.names);
            int second = toldName(script.claims.names);
            if ((script.claims.hitBy(first) >> second & 1) == 1) {
                fail(FAULT_TWICE, before);
            }
            if (first == second) {
                fail(FAULT_ITSELF, before);
            }
            if (fault == 0) {
                script.claims.addContra(first, second);
            }
        }

        private void strawLine() {
            passWord(script.straws.hasRoom(), FAULT_TOO_MUCH);
            int name = freshName(script.straws);
            int claim = toldName(script.claims.names);
            int full = numberWithin(1, FULL_MOST);
            if (fault == 0) {
                script.addStraw(name, claim, full);
            }
        }

        private void memberLine() {
            passWord(script.members.hasRoom(), FAULT_TOO_MUCH);
            int name = freshName(script.members);
            if (fault == 0) {
                script.addMember(name);
            }
        }

        private void holdsLine() {
            passWord(true, 0);
            int member = toldName(script.members);
            int claim = toldName(script.claims.names);
            if (script.isHeld(member, claim)) {
                fail(FAULT_TWICE, before);
            }
            if (fault == 0) {
                script.addHeld(member, claim);
            }
        }

        private void debateLine() {
            passWord(script.debates < DEBATES_MOST, FAULT_TOO_MUCH);
            int member = toldName(script.members);
            int straw = toldName(script.straws);
            int night = numberWithin(0, TOLD_NIGHT_MOST);
            if (fault == 0) {
                script.addDebate(member, straw, night);
            }
        }

        private void stuffLine() {
            passWord(script.stuffs < STUFFS_MOST, FAULT_TOO_MUCH);
            int straw = toldName(script.straws);
            int night = numberWithin(0, TOLD_NIGHT_MOST);
            if (fault == 0) {
                script.addStuff(straw, night);
            }
        }

        private void dampLine() {
            passWord(!script.dampTold, FAULT_TWICE);
            int damp = numberWithin(0, HUNDRED);
            if (fault == 0) {
                script.damp = damp;
                script.dampTold = true;
            }
        }

        private void seedLine() {
            passWord(!script.seedTold, FAULT_TWICE);
            int seed = numberWithin(0, 99999);
            if (fault == 0) {
                script.seed = seed;
                script.seedTold = true;
            }
        }

        private void lawLine() {
            passWord(true, 0);
            int which = kind == T_WORD ? word - W_LEAN : NONE;
            if (which < 0 || which >= LAWS) {
                fail(FAULT_TOKEN, start);
                return;
            }
            law = script.laws[which];
            passWord(!law.told, FAULT_TWICE);
            joinedAt(0, 0);
            if (fault == 0) {
                law.told = true;
            }
        }

        // Counts the token at hand among the knots and passes it.
        private void knot() {
            if (script.knots >= KNOTS_MOST) {
                fail(FAULT_TOO_MUCH, start);
            }
            if (fault == 0) {
                script.knots++;
                next();
            }
        }

        // Parts joined by the signs of a level or of tighter ones; open: how many brackets stand open.
        private void joinedAt(int level, int open) {
            if (fault != 0 || open > OPEN_MOST) {
                return;
            }
            if (level >= LEVEL_PART) {
                part(open);
            } else if (level == LEVEL_NOT) {
                denied(open);
            } else {
                joinedAt(level + 1, open);
                int most = level == LEVEL_COMPARED ? 1 : KNOTS_MOST;
                for (int i = 0; i < most && fault == 0 && isSignOf(level); i++) {
                    int joint = KNOT_SIGN + sign;
                    knot();
                    joinedAt(level + 1, open);
                    law.add(joint);
                }
            }
        }

        private boolean isSignOf(int level) {
            return kind == T_SIGN && sign >= 0 && sign < SIGN_LEVELS.length && SIGN_LEVELS[sign] == level;
        }

        private void denied(int open) {
            int denials = 0;
            // One more than there may be knots: the not that is too much must come to be counted, too.
            while (denials <= KNOTS_MOST && fault == 0 && kind == T_WORD && word == W_NOT) {
                denials++;
                knot();
            }
            joinedAt(LEVEL_NOT + 1, open);
            for (int i = 0; i < denials; i++) {
                law.add(KNOT_SIGN + S_NOT);
            }
        }

        private void part(int open) {
            if (kind == T_OPEN) {
                if (open >= OPEN_MOST) {
                    fail(FAULT_TOO_MUCH, start);
                }
                pass(T_OPEN);
                joinedAt(0, open + 1);
                pass(T_CLOSE);
            } else if (kind == T_NUMBER) {
                if (number > NUMBER_MOST) {
                    fail(FAULT_TOO_MUCH, start);
                }
                law.add(number);
                knot();
            } else if (kind == T_WORD && word >= W_WEIGHT) {
                law.add(KNOT_NAME + word - W_WEIGHT);
                knot();
            } else {
                fail(FAULT_TOKEN, start);
            }
        }
    }

    /** How it stands on a night, and how nights go by; a trial may go otherwise. */
    private static final class World {
        Script script;
        int night;
        int shed;
        int putOff;
        int last;
        final int[] full;
        final int[] holds;
        final int[] won;
        final int[] beaten;
        final long[] names;
        boolean drawn;
        boolean noDamp;
        boolean noWear;
        boolean bothWays;
        int absent;

        World(Script script) {
            this.script = script;
            full = new int[STRAWS_MOST];
            holds = new int[MEMBERS_MOST];
            won = new int[MEMBERS_MOST];
            beaten = new int[MEMBERS_MOST];
            names = new long[NAMES];
            drawn = true;
            absent = NONE;
        }

        void begin(Script told) {
            script = told;
            night = 0;
            shed = 0;
            putOff = 0;
            last = told.seed;
            for (int i = 0; i < STRAWS_MOST; i++) {
                full[i] = i < told.straws.size ? told.strawFull[i] : 0;
            }
            for (int i = 0; i < MEMBERS_MOST; i++) {
                holds[i] = i < told.members.size ? told.memberHolds[i] : 0;
                won[i] = 0;
                beaten[i] = 0;
            }
            goPlainly();
        }

        void copyFrom(World other) {
            script = other.script;
            night = other.night;
            shed = other.shed;
            putOff = other.putOff;
            last = other.last;
            for (int i = 0; i < STRAWS_MOST; i++) {
                full[i] = other.full[i];
            }
            for (int i = 0; i < MEMBERS_MOST; i++) {
                holds[i] = other.holds[i];
                won[i] = other.won[i];
                beaten[i] = other.beaten[i];
            }
            goPlainly();
        }

        private void goPlainly() {
            drawn = true;
            noDamp = false;
            noWear = false;
            bothWays = false;
            absent = NONE;
        }

        boolean isMember(int member) {
            return member >= 0 && member < MEMBERS_MOST;
        }

        boolean isStraw(int straw) {
            return straw >= 0 && straw < STRAWS_MOST;
        }

        int fullOf(int straw) {
            return straw >= 0 && straw < STRAWS_MOST ? full[straw] : 0;
        }

        boolean inShed(int straw) {
            return straw >= 0 && straw < STRAWS_MOST && (shed >> straw & 1) == 1;
        }

        int holdsOf(int member) {
            return member >= 0 && member < MEMBERS_MOST ? holds[member] : 0;
        }

        boolean holdsClaim(int member, int claim) {
            return (holdsOf(member) >> claim & 1) == 1;
        }

        void setHolds(int member, int claims) {
            if (isMember(member)) {
                holds[member] = claims;
            }
        }

        int wonBy(int member) {
            return member >= 0 && member < MEMBERS_MOST ? won[member] : 0;
        }

        int beatenOf(int member) {
            return member >= 0 && member < MEMBERS_MOST ? beaten[member] : 0;
        }

        int wonByAll() {
            int sum = 0;
            for (int i = 0; i < MEMBERS_MOST; i++) {
                sum += won[i];
            }
            return sum;
        }

        int beatenByAll() {
            int sum = 0;
            for (int i = 0; i < MEMBERS_MOST; i++) {
                sum += beaten[i];
            }
            return sum;
        }

        int fullOfAll() {
            int sum = 0;
            for (int i = 0; i < STRAWS_MOST; i++) {
                sum += full[i];
            }
            return sum;
        }

        int heldByAll() {
            int sum = 0;
            for (int i = 0; i < MEMBERS_MOST; i++) {
                sum += Integer.bitCount(holds[i]);
            }
            return sum;
        }

        int forceOf(int member, int claim) {
            int foes = script.claims.foesOf(claim);
            if (bothWays) {
                foes |= script.claims.hitBy(claim);
            }
            return script.claims.mostWeight(holdsOf(member) & foes);
        }

        void readNames(int member, int straw) {
            int claim = script.claimOf(straw);
            names[N_WEIGHT] = script.claims.weightOf(claim);
            names[N_TEMPER] = script.claims.temperOf(claim);
            names[N_FULL] = fullOf(straw);
            names[N_FORCE] = forceOf(member, claim);
            names[N_WINS] = wonBy(member);
            names[N_HELD] = Integer.bitCount(holdsOf(member));
            names[N_NIGHT] = night;
        }

        // By the names as they were read last.
        long lawValue(int which) {
            if (which < 0 || which >= LAWS || !script.laws[which].told) {
                return ERROR;
            }
            return script.laws[which].value(names);
        }

        private long boundLaw(int which, long most, long otherwise) {
            if (which < 0 || which >= LAWS || !script.laws[which].told) {
                return otherwise;
            }
            long value = script.laws[which].value(names);
            if (value == ERROR) {
                return otherwise;
            }
            return value < 0 ? 0 : value > most ? most : value;
        }

        boolean winsNow(int member, int straw) {
            readNames(member, straw);
            long plain = names[N_WEIGHT] * names[N_FULL] / HUNDRED;
            return names[N_FORCE] > boundLaw(LEAN, LEAN_MOST, plain);
        }

        boolean contend(int member, int straw) {
            if (!isMember(member) || !isStraw(straw)) {
                return false;
            }
            if (winsNow(member, straw)) {
                if (!noWear) {
                    int worn = (int) boundLaw(WEAR, WEAR_MOST, WEAR_UNTOLD);
                    full[straw] = Math.max(0, full[straw] - worn);
                }
                won[member]++;
                return true;
            }
            long turned = lawValue(TURN);
            if (turned != ERROR && turned != 0) {
                holds[member] |= 1 << script.claimOf(straw);
            }
            beaten[member]++;
            return false;
        }

        void stuffAll() {
            for (int i = 0; i < STRAWS_MOST; i++) {
                full[i] = i < script.straws.size ? FULL_MOST : 0;
            }
            shed = 0;
        }

        void passNights(int nights) {
            for (int i = 0; i < nights; i++) {
                passNight();
            }
        }

        void passNight() {
            if (night <= TOLD_NIGHT_MOST) {
                stuffTold();
                for (int i = 0; i < script.debates && i < DEBATES_MOST; i++) {
                    if (script.debateNight[i] == night && takesPlace(i)) {
                        contend(script.debateMember[i], script.debateStraw[i]);
                    }
                }
            }
            dampenStraw();
            night++;
        }

        private void stuffTold() {
            for (int i = 0; i < script.stuffs && i < STUFFS_MOST; i++) {
                int straw = script.stuffStraw[i];
                if (script.stuffNight[i] == night && isStraw(straw)) {
                    full[straw] = FULL_MOST;
                    shed &= ~(1 << straw);
                }
            }
        }

        private boolean takesPlace(int debate) {
            if (debate < 0 || debate >= DEBATES_MOST || script.debateMember[debate] == absent) {
                return false;
            }
            boolean off = inShed(script.debateStraw[debate]);
            if (off) {
                putOff++;
            }
            return !off;
        }

        private void dampenStraw() {
            for (int i = 0; i < script.straws.size && i < STRAWS_MOST; i++) {
                if ((shed >> i & 1) == 0) {
                    if (isDamp()) {
                        full[i] = Math.max(0, full[i] - 1);
                    }
                    if (full[i] == 0) {
                        shed |= 1 << i;
                    }
                }
            }
        }

        private boolean isDamp() {
            int damp = script.damp;
            if (noDamp || damp == 0) {
                return false;
            }
            if (!drawn) {
                return damp >= DAMP_AS_IT_GOES;
            }
            return damp == HUNDRED || drawNumber() % HUNDRED < damp;
        }

        private int drawNumber() {
            last = last * 1103515245 + 12345 & 0x7fffffff;
            return last >> 16;
        }
    }

    /** What was done by call and can be undone: the latest ones, each with what it changed as it was ahead. */
    private static final class Past {
        int size;
        int newest;
        final int[] members;
        final int[] straws;
        final int[] holds;
        final int[] won;
        final int[] beaten;
        final int[] full;

        Past() {
            size = 0;
            newest = 0;
            members = new int[UNDO_MOST];
            straws = new int[UNDO_MOST];
            holds = new int[UNDO_MOST];
            won = new int[UNDO_MOST];
            beaten = new int[UNDO_MOST];
            full = new int[UNDO_MOST];
        }

        void clear() {
            size = 0;
        }

        // The row goes round: a new one takes the place of the oldest one, if all are taken.
        void record(World world, int member, int straw) {
            newest = newest + 1 < UNDO_MOST && newest >= 0 ? newest + 1 : 0;
            members[newest] = member;
            straws[newest] = straw;
            holds[newest] = world.holdsOf(member);
            won[newest] = world.wonBy(member);
            beaten[newest] = world.beatenOf(member);
            full[newest] = world.fullOf(straw);
            size = Math.min(size + 1, UNDO_MOST);
        }

        int takeBack(World world) {
            if (size < 1 || newest < 0 || newest >= UNDO_MOST) {
                return NONE;
            }
            int member = members[newest];
            int straw = straws[newest];
            if (world.isMember(member)) {
                world.holds[member] = holds[newest];
                world.won[member] = won[newest];
                world.beaten[member] = beaten[newest];
            }
            if (world.isStraw(straw)) {
                world.full[straw] = full[newest];
            }
            newest = newest > 0 ? newest - 1 : UNDO_MOST - 1;
            size--;
            return size;
        }
    }

    /** What was seen and struck, and by how much of it one knows. */
    private static final class Memory {
        int size;
        int knownBy;
        final int[] nights;
        final int[] members;
        final int[] wins;
        final boolean[] atLeast;
        // The one that a strike strikes; NONE for one that is no strike.
        final int[] struck;

        Memory() {
            size = 0;
            knownBy = NONE;
            nights = new int[SEEN_MOST];
            members = new int[SEEN_MOST];
            wins = new int[SEEN_MOST];
            atLeast = new boolean[SEEN_MOST];
            struck = new int[SEEN_MOST];
        }

        void clear() {
            size = 0;
            knownBy = NONE;
        }

        int addSeen(int behind, int member, int often, boolean least) {
            if (size < 0 || size >= SEEN_MOST) {
                return NONE;
            }
            nights[size] = behind;
            members[size] = member;
            wins[size] = often;
            atLeast[size] = least;
            struck[size] = NONE;
            size++;
            return size - 1;
        }

        int addStrike(int seen) {
            if (size < 0 || size >= SEEN_MOST || seen < 0 || seen >= size) {
                return NONE;
            }
            struck[size] = seen;
            size++;
            return size - 1;
        }

        int knownLimit() {
            return knownBy == NONE ? size : knownBy;
        }

        // Bits. One can only be struck by a later one, so from the last one on each strike's own fate is settled.
        int knownOnes() {
            int gone = 0;
            int ones = 0;
            for (int i = Math.min(knownLimit(), SEEN_MOST) - 1; i >= 0; i--) {
                if ((gone >> i & 1) == 0) {
                    if (struck[i] == NONE) {
                        ones |= 1 << i;
                    } else {
                        gone |= 1 << struck[i];
                    }
                }
            }
            return ones;
        }

        int latestNight(int ones) {
            int latest = 0;
            for (int i = 0; i < SEEN_MOST; i++) {
                if ((ones >> i & 1) == 1 && nights[i] > latest) {
                    latest = nights[i];
                }
            }
            return latest;
        }

        boolean isBorneOut(int ones, World world) {
            for (int i = 0; i < SEEN_MOST; i++) {
                if ((ones >> i & 1) == 1 && nights[i] == world.night
                    && world.wonBy(members[i]) >= wins[i] != atLeast[i]) {
                    return false;
                }
            }
            return true;
        }
    }

    /** Members matched with straw. */
    private static final class Pairing {
        int pairs;
        final int[] beatable;
        final int[] straws;
        // The most pairs of the members from one on, by the straw that is taken: a row of 32 for each.
        final int[] most;

        Pairing() {
            pairs = 0;
            beatable = new int[MEMBERS_MOST];
            straws = new int[MEMBERS_MOST];
            most = new int[(MEMBERS_MOST + 1) << STRAWS_MOST];
        }

        int strawOf(int member) {
            return member >= 0 && member < MEMBERS_MOST ? straws[member] : NOT_SO;
        }

        void pair(World world) {
            for (int member = 0; member < MEMBERS_MOST; member++) {
                beatable[member] = member < world.script.members.size ? beatableBy(world, member) : 0;
            }
            for (int member = MEMBERS_MOST - 1; member >= 0; member--) {
                for (int taken = 0; taken < 1 << STRAWS_MOST; taken++) {
                    most[member << STRAWS_MOST | taken] = mostFrom(member, taken);
                }
            }
            pairs = pairsFrom(0, 0);
            choose();
        }

        private int beatableBy(World world, int member) {
            int bits = 0;
            for (int straw = 0; straw < world.script.straws.size; straw++) {
                if (!world.inShed(straw) && world.winsNow(member, straw)) {
                    bits |= 1 << straw;
                }
            }
            return bits;
        }

        private int pairsFrom(int member, int taken) {
            int at = member << STRAWS_MOST | taken;
            return at >= 0 && at < most.length ? most[at] : 0;
        }

        private int mostFrom(int member, int taken) {
            int best = pairsFrom(member + 1, taken);
            for (int straw = 0; straw < STRAWS_MOST; straw++) {
                best = Math.max(best, withStraw(member, taken, straw));
            }
            return best;
        }

        // How many pairs there are, if the member has the straw; NONE, if he can't.
        private int withStraw(int member, int taken, int straw) {
            if (member < 0 || member >= MEMBERS_MOST || ((beatable[member] & ~taken) >> straw & 1) == 0) {
                return NONE;
            }
            return 1 + pairsFrom(member + 1, taken | 1 << straw);
        }

        private void choose() {
            int taken = 0;
            for (int member = 0; member < MEMBERS_MOST; member++) {
                straws[member] = NOT_SO;
                int wanted = pairsFrom(member, taken);
                for (int straw = 0; straw < STRAWS_MOST && straws[member] == NOT_SO; straw++) {
                    if (withStraw(member, taken, straw) == wanted) {
                        straws[member] = straw;
                    }
                }
                if (straws[member] != NOT_SO) {
                    taken |= 1 << straws[member];
                }
            }
        }
    }
}
