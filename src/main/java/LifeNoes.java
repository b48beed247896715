/** A village whose people each may say no so often; ../shared/DOC.md says what each call answers. */
public final class LifeNoes {
    public static final int BAD = -1, FULL = -2, NONE = -3, STATE = -4;
    public static final long NO = -1000000000000L;

    private static final int NOTHING_THERE = -11, PLACE_OUTSIDE = -12, OTHER_SORT = -13;
    private static final int SIZE_BELOW_0 = -14, PARTED_BY_0 = -15, NO_ROW = -9, TEXT_FAULT = -100;

    private static final int MOST_PEOPLE = 6, MOST_PROPOSALS = 8, MOST_BYTES = 240, MOST_YEAR = 999;
    private static final int MOST_A = 255, MOST_AGE = 99, MOST_NOES = 9, MOST_WEIGHT = 9, MOST_WORTH = 9;
    private static final int MOST_AHEAD = 3, MOST_ROWS = 12, MOST_ITEMS = 40, MOST_BODIES = 30, PLACES = 4;

    private static final int SAYER = 0, QUICK = 1, BAR = 2, WAIT = 3, LEAGUE = 4, TOLD = 5, KINDS = 6;
    private static final int NEED = 0, TURN = 1, GROW = 2, YEAR = 3, LAWS = 4;
    private static final int MOST_NEED = 3, MOST_GROW = 20;
    private static final int BYTES = 0, SHORTS = 1, LONGS = 3, MISSING = -1;
    private static final int HOLDS_PERSON = 0, HOLDS_ROW = 1, HOLDS_NOTHING = 2;
    private static final int ALL_PEOPLE = -1, ONLY_SPOILT = -2;

    private final Village now = new Village();
    private final Village kept = new Village();
    private boolean isKept = false;
    private final Ahead ahead = new Ahead();
    private final TextReader reader = new TextReader();
    private final int[] tape = new int[MOST_BYTES];
    private int tapeLength = 0;
    private final int[][] rows = new int[MOST_ROWS][3];
    private final int[][] dueRows = new int[MOST_ROWS][3];
    private int rowCount = 0;
    private final Sheet[] sheets = new Sheet[PLACES];
    private final int[] shelfHolds = new int[PLACES];
    /** The number of the person, or the sort of the row. */
    private final int[] shelfNumber = new int[PLACES];
    private final int[] shelfLength = new int[PLACES];
    private final Sayer[] things = new Sayer[KINDS];
    private final Trace bodies;

    public LifeNoes() {
        for (int i = 0; i < PLACES; i++) {
            sheets[i] = new Sheet();
            shelfHolds[i] = HOLDS_NOTHING;
        }
        Trace trace = new Trace();
        things[SAYER] = new Sayer(trace);
        things[QUICK] = new Quick(trace);
        things[BAR] = new Bar(trace);
        things[WAIT] = new Wait(trace);
        things[LEAGUE] = new League(trace);
        things[TOLD] = new Told(trace);
        bodies = trace;
    }

    // ---- the village

    public int feed(long eight, int n) {
        if (!within(n, 1, 8)) return BAD;
        if (tapeLength + n > MOST_BYTES) return FULL;
        for (int i = 0; i < n; i++) {
            tape[tapeLength + i] = (int) (eight >>> (8 * i)) & 255;
        }
        tapeLength += n;
        return tapeLength;
    }

    public int village() {
        boolean good = reader.readText(tape, tapeLength);
        tapeLength = 0;
        if (!good) return TEXT_FAULT - reader.start;
        int z = now.z;
        now.copyFrom(reader.made);
        now.z = z;
        rowCount = 0;
        return now.people;
    }

    public int person(int kind, int a, int age, int noes) {
        if (!within(kind, 0, KINDS - 1) || !within(a, 0, MOST_A)) return BAD;
        if (!within(age, 0, MOST_AGE) || !within(noes, 0, MOST_NOES)) return BAD;
        if (now.people >= MOST_PEOPLE) return FULL;
        return now.addPerson(kind, a, age, noes);
    }

    public int personOf(int p, int what) {
        if (!isPerson(p)) return BAD;
        switch (what) {
            case 0: return now.kind[p];
            case 1: return now.a[p];
            case 2: return now.age[p];
            case 3: return now.noes[p];
            default: return BAD;
        }
    }

    public int leave(int p) {
        if (!isPerson(p)) return BAD;
        now.removePerson(p);
        return now.people;
    }

    public int mind(int p, int kind, int a) {
        if (!isPerson(p) || !within(kind, 0, KINDS - 1) || !within(a, 0, MOST_A)) return BAD;
        int before = now.kind[p];
        now.kind[p] = kind;
        now.a[p] = a;
        return before;
    }

    public int give(int p, int q) {
        if (!isPerson(p) || !isPerson(q) || p == q) return BAD;
        if (now.noes[p] == 0) return NONE;
        if (now.noes[q] >= MOST_NOES) return FULL;
        now.noes[p]--;
        now.noes[q]++;
        return now.noes[q];
    }

    public int noes(int p, int v) {
        if (!isPerson(p) || !within(v, 0, MOST_NOES)) return BAD;
        int before = now.noes[p];
        now.noes[p] = v;
        return before;
    }

    public int proposal(int weight) {
        if (!within(weight, 0, MOST_WEIGHT)) return BAD;
        if (now.proposals >= MOST_PROPOSALS) return FULL;
        return now.addProposal(weight);
    }

    public int weigh(int proposal, int v) {
        if (!isProposal(proposal) || !within(v, 0, MOST_WEIGHT)) return BAD;
        int before = now.weight[proposal];
        now.weight[proposal] = v;
        return before;
    }

    public int worth(int proposal, int p, int v) {
        if (!isProposal(proposal) || !isPerson(p) || !within(v, -MOST_WORTH, MOST_WORTH)) return BAD;
        int before = now.worth[proposal][p];
        now.worth[proposal][p] = v;
        return before + 10;
    }

    public int proposalOf(int proposal, int p) {
        if (!isProposal(proposal)) return BAD;
        if (p == -1) return now.weight[proposal];
        if (!isPerson(p)) return BAD;
        return now.worth[proposal][p] + 10;
    }

    public int set(int law, int v) {
        if (!mayBeLaw(law, v)) return BAD;
        int before = now.law[law];
        now.law[law] = v;
        return before;
    }

    public int law(int law) {
        return within(law, 0, LAWS - 1) ? now.law[law] : BAD;
    }

    // ---- years

    public int would(int proposal) {
        if (!isProposal(proposal)) return BAD;
        return now.whoWould(proposal, now.law[YEAR], now.packedNoes());
    }

    public int says(int proposal) {
        if (!isProposal(proposal)) return BAD;
        return now.whoSays(proposal, now.law[YEAR], now.packedNoes());
    }

    public int comes(int proposal) {
        if (!isProposal(proposal)) return BAD;
        if (now.law[YEAR] >= MOST_YEAR) return STATE;
        return now.passYear(proposal) ? 1 : 0;
    }

    public int lot() {
        if (now.allWeights() == 0) return NONE;
        if (now.law[YEAR] >= MOST_YEAR) return STATE;
        now.z = nextLot(now.z);
        int drawn = now.drawn(now.z);
        now.passYear(drawn);
        return drawn;
    }

    public int had(int p) {
        return isPerson(p) ? now.had[p] + 100000 : BAD;
    }

    public int seed(int v) {
        int before = now.z;
        now.z = v;
        return before;
    }

    // ---- what is ahead

    public long value(int p, int n, int part) {
        if (!isPerson(p) || !within(n, 0, MOST_AHEAD) || !within(part, 0, 1)) return NO;
        ahead.look(now, p);
        return partOf(ahead.sum(n), ahead.power[n], part);
    }

    public long best(int p, int n, int part) {
        if (!isPerson(p) || !within(n, 0, MOST_AHEAD) || !within(part, 0, 1)) return NO;
        ahead.look(now, p);
        return partOf(ahead.bestSum(n), ahead.power[n], part);
    }

    public int should(int p, int proposal, int n) {
        if (!isPerson(p) || !isProposal(proposal) || !within(n, 0, MOST_AHEAD - 1)) return BAD;
        if (now.noes[p] == 0) return NONE;
        ahead.look(now, p);
        return ahead.isNoBetter(proposal, n + 1) ? 1 : 0;
    }

    public int barOf(int p, int n) {
        if (!isPerson(p) || !within(n, 1, 2)) return BAD;
        ahead.look(now, p);
        return ahead.bestBar(p, n);
    }

    public int lets(int proposal, int what) {
        if (!isProposal(proposal) || !within(what, 0, 1)) return BAD;
        ahead.look(now, ALL_PEOPLE);
        for (int k = 0; k <= MOST_AHEAD; k++) {
            int digits = ahead.rowThatLets(proposal, k);
            if (digits >= 0) return what == 0 ? k : digits;
        }
        return NONE;
    }

    public int harm(int n) {
        if (!within(n, 1, 2)) return BAD;
        ahead.look(now, ALL_PEOPLE);
        return ahead.leastHarm(n);
    }

    public long spoilt(int n, int part) {
        if (!within(n, 0, MOST_AHEAD) || !within(part, 0, 1)) return BAD;
        ahead.look(now, ONLY_SPOILT);
        return partOf(ahead.sum(n), ahead.power[n], part);
    }

    // ---- rows

    public int prove(int n) {
        if (!within(n, 1, MOST_ROWS)) return BAD;
        if (now.allWeights() == 0) return NONE;
        fillRows(rows, n);
        rowCount = n;
        return n;
    }

    public int row(int i, int what) {
        return isInRows(i, what) ? rows[i][what] : NO_ROW;
    }

    public int alterRow(int i, int what, int v) {
        if (!isInRows(i, what)) return NO_ROW;
        int before = rows[i][what];
        rows[i][what] = v;
        return before;
    }

    public int judge() {
        if (now.allWeights() == 0) return NONE;
        fillRows(dueRows, rowCount);
        for (int i = 0; i < rowCount; i++) {
            for (int what = 0; what < 3; what++) {
                if (rows[i][what] != dueRows[i][what]) return i + 1;
            }
        }
        return 0;
    }

    public int worths(int proposal, int sheet) {
        if (!isProposal(proposal) || !within(sheet, 0, PLACES - 1)) return BAD;
        Sheet from = sheets[sheet];
        if (from.sort == MISSING) return NOTHING_THERE;
        if (from.sort != 2) return OTHER_SORT;
        int count = Math.min(from.length, now.people);
        for (int p = 0; p < count; p++) {
            now.worth[proposal][p] = Math.max(-MOST_WORTH, Math.min(MOST_WORTH, from.items[p]));
        }
        return count;
    }

    // ---- the host

    public int sheet(int sheet, int sort, int n) {
        if (!within(sheet, 0, PLACES - 1) || !within(sort, MISSING, LONGS)) return BAD;
        if (sort == MISSING) {
            sheets[sheet].become(MISSING, 0);
            return 1;
        }
        if (n > MOST_ITEMS) return BAD;
        if (n < 0) return SIZE_BELOW_0;
        sheets[sheet].become(sort, n);
        return 1;
    }

    public int put(int sheet, int i, int v) {
        if (!within(sheet, 0, PLACES - 1)) return BAD;
        Sheet into = sheets[sheet];
        if (into.sort == MISSING) return NOTHING_THERE;
        if (!within(i, 0, into.length - 1)) return PLACE_OUTSIDE;
        into.items[i] = narrowed(v, into.sort);
        return 1;
    }

    public int item(int sheet, int sort, int i) {
        if (!within(sheet, 0, PLACES - 1) || !within(sort, BYTES, LONGS)) return BAD;
        Sheet from = sheets[sheet];
        if (from.sort == MISSING) return NOTHING_THERE;
        if (from.sort != sort) return OTHER_SORT;
        if (!within(i, 0, from.length - 1)) return PLACE_OUTSIDE;
        return from.items[i];
    }

    public int shelf(int shelf, int what, int n) {
        if (!within(shelf, 0, PLACES - 1)) return BAD;
        switch (what) {
            case HOLDS_PERSON:
                if (!isPerson(n)) return BAD;
                fillShelf(shelf, HOLDS_PERSON, n, 0);
                return 1;
            case HOLDS_ROW:
                if (!within(n, 0, PLACES - 1)) return BAD;
                Sheet from = sheets[n];
                fillShelf(shelf, from.sort == MISSING ? HOLDS_NOTHING : HOLDS_ROW, from.sort, from.length);
                return 1;
            case HOLDS_NOTHING:
                fillShelf(shelf, HOLDS_NOTHING, 0, 0);
                return 1;
            default:
                return BAD;
        }
    }

    public int taken(int shelf, int as) {
        if (!within(shelf, 0, PLACES - 1)) return BAD;
        if (!within(as, 0, KINDS - 1) && !within(as, 10, 13)) return BAD;
        if (shelfHolds[shelf] == HOLDS_ROW) {
            return shelfNumber[shelf] == as - 10 ? shelfLength[shelf] : OTHER_SORT;
        }
        Sayer thing = thingOn(shelf);
        if (thing == null) return NOTHING_THERE;
        return isUnder(thing, as) ? thing.n : OTHER_SORT;
    }

    public int act(int shelf, int act, int x) {
        bodies.clear();
        if (!within(shelf, 0, PLACES - 1)) return 0;
        Sayer thing = thingOn(shelf);
        if (thing == null) return 0;
        int answer = 0;
        switch (act) {
            case 0: answer = thing.bars(x); break;
            case 1: answer = thing.waits(x); break;
            case 2: answer = thing.shares(x); break;
            case 3: answer = thing.tells(x); break;
            default: return 0;
        }
        return bodies.parted ? PARTED_BY_0 : answer;
    }

    public int trace(int i) {
        return within(i, 0, bodies.count - 1) ? bodies.numbers[i] : NONE;
    }

    public int many(int what) {
        switch (what) {
            case 0: return now.people;
            case 1: return now.proposals;
            case 2: return now.allNoes();
            case 3: return now.fell;
            case 4: return now.passed;
            case 5: return rowCount;
            case 6: return tapeLength;
            case 7: return bodies.count;
            default: return BAD;
        }
    }

    // ---- kept

    public int keep() {
        kept.copyFrom(now);
        isKept = true;
        return 1;
    }

    public int again() {
        if (!isKept) return NONE;
        now.copyFrom(kept);
        return now.people;
    }

    // ---- what the calls share

    private static boolean within(int v, int least, int most) {
        return v >= least && v <= most;
    }

    private boolean isPerson(int p) {
        return p >= 0 && p < now.people;
    }

    private boolean isProposal(int proposal) {
        return proposal >= 0 && proposal < now.proposals;
    }

    private boolean isInRows(int i, int what) {
        return within(i, 0, rowCount - 1) && within(what, 0, 2);
    }

    private static boolean mayBeLaw(int law, int v) {
        switch (law) {
            case NEED: return within(v, 1, MOST_NEED);
            case TURN: return within(v, 0, 1);
            case GROW: return within(v, 0, MOST_GROW);
            default: return false;
        }
    }

    private static int nextLot(int z) {
        return z * 1103515245 + 12345;
    }

    /** The rows as they must be from now on. */
    private void fillRows(int[][] into, int n) {
        int z = now.z;
        int year = now.law[YEAR];
        int noes = now.packedNoes();
        for (int i = 0; i < n && i < MOST_ROWS; i++) {
            z = nextLot(z);
            int drawn = now.drawn(z);
            int says = now.whoSays(drawn, year, noes);
            into[i][0] = drawn;
            into[i][1] = says;
            into[i][2] = now.isFall(says) ? 1 : 0;
            noes = now.noesAfter(says, year, noes);
            year++;
        }
    }

    /** Of top by below (above 0): the number above the line (part 0) or below it, cut short. */
    private static long partOf(long top, long below, int part) {
        long common = commonDivisor(Math.abs(top), below);
        if (common == 0) return 0;
        return (part == 0 ? top : below) / common;
    }

    private static long commonDivisor(long a, long b) {
        long x = a;
        long y = b;
        // Euclid's steps for longs are less than 100.
        for (int step = 0; step < 100 && y != 0; step++) {
            long rest = x % y;
            x = y;
            y = rest;
        }
        return x;
    }

    private static int narrowed(int v, int sort) {
        if (sort == BYTES) return (byte) v;
        if (sort == SHORTS) return (short) v;
        // Of a long only the lowest 32 bits are ever answered.
        return v;
    }

    private void fillShelf(int shelf, int holds, int number, int length) {
        shelfHolds[shelf] = holds;
        shelfNumber[shelf] = number;
        shelfLength[shelf] = length;
    }

    /** The person on a shelf as a thing of his kind as it is now, or null. */
    private Sayer thingOn(int shelf) {
        if (shelfHolds[shelf] != HOLDS_PERSON) return null;
        int p = shelfNumber[shelf];
        if (!isPerson(p) || !within(now.kind[p], 0, KINDS - 1)) return null;
        Sayer thing = things[now.kind[p]];
        thing.n = p;
        thing.a = now.a[p];
        return thing;
    }

    private static boolean isUnder(Sayer thing, int as) {
        switch (as) {
            case SAYER: return true;
            case QUICK: return thing instanceof Quick;
            case BAR: return thing instanceof Bar;
            case WAIT: return thing instanceof Wait;
            case LEAGUE: return thing instanceof League;
            case TOLD: return thing instanceof Told;
            default: return false;
        }
    }

    /** People, proposals and laws, and what one year does to them. */
    private static final class Village {
        int people = 0;
        final int[] kind = new int[MOST_PEOPLE];
        final int[] a = new int[MOST_PEOPLE];
        final int[] age = new int[MOST_PEOPLE];
        final int[] noes = new int[MOST_PEOPLE];
        final int[] had = new int[MOST_PEOPLE];
        int proposals = 0;
        final int[] weight = new int[MOST_PROPOSALS];
        final int[][] worth = new int[MOST_PROPOSALS][MOST_PEOPLE];
        final int[] law = new int[LAWS];
        int z = 1;
        int fell = 0;
        int passed = 0;

        Village() {
            law[NEED] = 1;
            law[YEAR] = 1;
        }

        /** As a new one, but for z. */
        void empty() {
            people = 0;
            proposals = 0;
            law[NEED] = 1;
            law[TURN] = 0;
            law[GROW] = 0;
            law[YEAR] = 1;
            fell = 0;
            passed = 0;
        }

        void copyFrom(Village other) {
            people = other.people;
            System.arraycopy(other.kind, 0, kind, 0, MOST_PEOPLE);
            System.arraycopy(other.a, 0, a, 0, MOST_PEOPLE);
            System.arraycopy(other.age, 0, age, 0, MOST_PEOPLE);
            System.arraycopy(other.noes, 0, noes, 0, MOST_PEOPLE);
            System.arraycopy(other.had, 0, had, 0, MOST_PEOPLE);
            proposals = other.proposals;
            System.arraycopy(other.weight, 0, weight, 0, MOST_PROPOSALS);
            for (int q = 0; q < MOST_PROPOSALS; q++) {
                System.arraycopy(other.worth[q], 0, worth[q], 0, MOST_PEOPLE);
            }
            System.arraycopy(other.law, 0, law, 0, LAWS);
            z = other.z;
            fell = other.fell;
            passed = other.passed;
        }

        /** Asked only while there is room. */
        int addPerson(int itsKind, int itsA, int itsAge, int itsNoes) {
            int p = people;
            kind[p] = itsKind;
            a[p] = itsA;
            age[p] = itsAge;
            noes[p] = itsNoes;
            had[p] = 0;
            for (int q = 0; q < MOST_PROPOSALS; q++) {
                worth[q][p] = 0;
            }
            people++;
            return p;
        }

        void removePerson(int p) {
            int behind = people - 1 - p;
            System.arraycopy(kind, p + 1, kind, p, behind);
            System.arraycopy(a, p + 1, a, p, behind);
            System.arraycopy(age, p + 1, age, p, behind);
            System.arraycopy(noes, p + 1, noes, p, behind);
            System.arraycopy(had, p + 1, had, p, behind);
            for (int q = 0; q < MOST_PROPOSALS; q++) {
                System.arraycopy(worth[q], p + 1, worth[q], p, behind);
            }
            people--;
        }

        /** Asked only while there is room. */
        int addProposal(int itsWeight) {
            int q = proposals;
            weight[q] = itsWeight;
            for (int p = 0; p < MOST_PEOPLE; p++) {
                worth[q][p] = 0;
            }
            proposals++;
            return q;
        }

        int allWeights() {
            int all = 0;
            for (int q = 0; q < proposals; q++) {
                all += weight[q];
            }
            return all;
        }

        int allNoes() {
            int all = 0;
            for (int p = 0; p < people; p++) {
                all += noes[p];
            }
            return all;
        }

        /** All noes as one number, four bits each, so that years ahead need no rows of their own. */
        int packedNoes() {
            int packed = 0;
            for (int p = 0; p < people; p++) {
                packed |= noes[p] << (4 * p);
            }
            return packed;
        }

        static int noesIn(int packed, int p) {
            return packed >>> (4 * p) & 15;
        }

        /** The proposal that comes by lot with z; asked only if not all weights are 0. */
        int drawn(int lot) {
            int all = allWeights();
            if (all <= 0) return 0;
            int place = (lot >>> 16) % all;
            int upTo = 0;
            for (int q = 0; q < proposals; q++) {
                upTo += weight[q];
                if (place < upTo) return q;
            }
            return 0;
        }

        int whoWould(int proposal, int year, int packed) {
            int able = whoHasNoes(packed);
            int called = calledOfLeague(year, able);
            int set = 0;
            for (int p = 0; p < people; p++) {
                if ((able >>> p & 1) == 1 && dislikes(proposal, p, able, called)) set |= 1 << p;
            }
            return set;
        }

        private int whoHasNoes(int packed) {
            int set = 0;
            for (int p = 0; p < people; p++) {
                if (noesIn(packed, p) > 0) set |= 1 << p;
            }
            return set;
        }

        private boolean dislikes(int proposal, int p, int able, int called) {
            int itsWorth = worth[proposal][p];
            switch (kind[p]) {
                case QUICK: return itsWorth < 0;
                case BAR: return itsWorth < -a[p];
                case WAIT: return itsWorth < -a[p] && !hasWorseOff(proposal, p, able);
                case LEAGUE: return itsWorth < 0 && p == called;
                case TOLD: return (a[p] >>> proposal & 1) == 1;
                default: return false;
            }
        }

        /** Whether some other person with noes has less worth of it. */
        private boolean hasWorseOff(int proposal, int p, int able) {
            for (int other = 0; other < people; other++) {
                if ((able >>> other & 1) == 1 && worth[proposal][other] < worth[proposal][p]) return true;
            }
            return false;
        }

        /** The only one of the league who may say no in that year, or -1. */
        private int calledOfLeague(int year, int able) {
            int members = 0;
            for (int p = 0; p < people; p++) {
                if (isInLeague(p, able)) members++;
            }
            if (members == 0) return -1;
            int place = year % members;
            for (int p = 0; p < people; p++) {
                if (isInLeague(p, able)) {
                    if (place == 0) return p;
                    place--;
                }
            }
            return -1;
        }

        private boolean isInLeague(int p, int able) {
            return kind[p] == LEAGUE && (able >>> p & 1) == 1;
        }

        int whoSays(int proposal, int year, int packed) {
            return sayersOf(whoWould(proposal, year, packed));
        }

        /** Those who say no, of those who would. */
        int sayersOf(int would) {
            if (law[TURN] == 0) return would;
            int left = would;
            int set = 0;
            for (int i = 0; i < law[NEED] && left != 0; i++) {
                int bit = 1 << oldestOf(left);
                set |= bit;
                left &= ~bit;
            }
            return set;
        }

        private int oldestOf(int set) {
            int oldest = -1;
            for (int p = 0; p < people; p++) {
                if ((set >>> p & 1) == 1 && (oldest < 0 || age[p] > age[oldest])) oldest = p;
            }
            return Math.max(oldest, 0);
        }

        boolean isFall(int says) {
            return Integer.bitCount(says) >= law[NEED];
        }

        /** The noes when that year is over: those said are gone, and grown ones have come. */
        int noesAfter(int says, int year, int packed) {
            boolean grows = law[GROW] > 0 && year % law[GROW] == 0;
            int after = packed;
            for (int p = 0; p < people; p++) {
                int one = 1 << (4 * p);
                if ((says >>> p & 1) == 1) after -= one;
                if (grows && noesIn(after, p) == 0) after += one;
            }
            return after;
        }

        /** A proposal comes: whether it falls. */
        boolean passYear(int proposal) {
            int packed = packedNoes();
            int says = whoSays(proposal, law[YEAR], packed);
            boolean falls = isFall(says);
            int after = noesAfter(says, law[YEAR], packed);
            for (int p = 0; p < people; p++) {
                noes[p] = noesIn(after, p);
                if (!falls) had[p] += worth[proposal][p];
            }
            if (falls) fell++;
            else passed++;
            law[YEAR]++;
            return falls;
        }
    }

    /** Years ahead of a village. Sums stand for averages: they are to be parted by power[n]. */
    private static final class Ahead {
        final Village v = new Village();
        /** All weights together (1 if they are 0), to the power of the index. */
        final long[] power = new long[MOST_AHEAD + 1];
        /** A person's number, or ALL_PEOPLE, or ONLY_SPOILT: what is summed up. */
        private int measure = ALL_PEOPLE;

        void look(Village seen, int measured) {
            v.copyFrom(seen);
            measure = measured;
            power[0] = 1;
            for (int i = 1; i <= MOST_AHEAD; i++) {
                power[i] = power[i - 1] * Math.max(1, v.allWeights());
            }
        }

        long sum(int n) {
            return sumFrom(n, v.law[YEAR], v.packedNoes());
        }

        private long sumFrom(int n, int year, int packed) {
            if (n <= 0 || n > MOST_AHEAD) return 0;
            long sum = 0;
            for (int q = 0; q < v.proposals; q++) {
                if (v.weight[q] == 0) continue;
                int says = v.whoSays(q, year, packed);
                long one = gain(q, v.isFall(says)) * power[n - 1];
                if (n > 1) one += sumFrom(n - 1, year + 1, v.noesAfter(says, year, packed));
                sum += v.weight[q] * one;
            }
            return sum;
        }

        private long gain(int proposal, boolean falls) {
            if (measure == ONLY_SPOILT) return falls && isLikedByAllButOne(proposal) ? 1 : 0;
            if (falls) return 0;
            if (measure >= 0 && measure < MOST_PEOPLE) return v.worth[proposal][measure];
            long all = 0;
            for (int p = 0; p < v.people; p++) {
                all += v.worth[proposal][p];
            }
            return all;
        }

        private boolean isLikedByAllButOne(int proposal) {
            int friends = 0;
            for (int p = 0; p < v.people; p++) {
                if (v.worth[proposal][p] > 0) friends++;
            }
            return friends == v.people - 1;
        }

        /** As sum, but the person who is measured says no or not as is best for him. */
        long bestSum(int n) {
            return bestSumFrom(n, v.law[YEAR], v.packedNoes());
        }

        private long bestSumFrom(int n, int year, int packed) {
            if (n <= 0 || n > MOST_AHEAD) return 0;
            long sum = 0;
            for (int q = 0; q < v.proposals; q++) {
                if (v.weight[q] != 0) sum += v.weight[q] * bestOf(q, n, year, packed);
            }
            return sum;
        }

        private long bestOf(int proposal, int n, int year, int packed) {
            int would = v.whoWould(proposal, year, packed);
            int without = v.sayersOf(would & ~ownBit());
            long silent = withSayers(without, proposal, n, year, packed);
            if (Village.noesIn(packed, measure) == 0) return silent;
            int with = v.sayersOf(would | ownBit());
            // In turn he may not be asked any more: then both are the same.
            if (with == without) return silent;
            return Math.max(silent, withSayers(with, proposal, n, year, packed));
        }

        private long withSayers(int says, int proposal, int n, int year, int packed) {
            if (n <= 0 || n > MOST_AHEAD) return 0;
            long one = gain(proposal, v.isFall(says)) * power[n - 1];
            if (n == 1) return one;
            return one + bestSumFrom(n - 1, year + 1, v.noesAfter(says, year, packed));
        }

        private int ownBit() {
            return 1 << measure;
        }

        /** Whether only a no to what comes now is best, of n years with this one. */
        boolean isNoBetter(int proposal, int n) {
            int year = v.law[YEAR];
            int packed = v.packedNoes();
            int would = v.whoWould(proposal, year, packed);
            int with = v.sayersOf(would | ownBit());
            int without = v.sayersOf(would & ~ownBit());
            if (with == without) return false;
            return withSayers(with, proposal, n, year, packed) > withSayers(without, proposal, n, year, packed);
        }

        /** Leaves the person changed: look again before anything else is asked. */
        int bestBar(int p, int n) {
            v.kind[p] = BAR;
            int bestA = 0;
            long most = 0;
            for (int a = 0; a <= 9; a++) {
                v.a[p] = a;
                long sum = sum(n);
                if (a == 0 || sum > most) {
                    most = sum;
                    bestA = a;
                }
            }
            return bestA;
        }

        /** Leaves the laws changed: look again before anything else is asked. */
        int leastHarm(int n) {
            int bestLaw = 0;
            long most = 0;
            for (int turn = 0; turn <= 1; turn++) {
                for (int need = 1; need <= MOST_NEED; need++) {
                    v.law[TURN] = turn;
                    v.law[NEED] = need;
                    long sum = sum(n);
                    if (bestLaw == 0 || sum > most) {
                        most = sum;
                        bestLaw = 10 * turn + need;
                    }
                }
            }
            return bestLaw;
        }

        /** The first row of k proposals behind which the told one passes, as digits to the base 8, or -1. */
        int rowThatLets(int proposal, int k) {
            return rowFrom(proposal, k, v.law[YEAR], v.packedNoes());
        }

        private int rowFrom(int proposal, int k, int year, int packed) {
            if (k > MOST_AHEAD) return -1;
            if (k <= 0) return v.isFall(v.whoSays(proposal, year, packed)) ? -1 : 0;
            for (int q = 0; q < v.proposals; q++) {
                int after = v.noesAfter(v.whoSays(q, year, packed), year, packed);
                int rest = rowFrom(proposal, k - 1, year + 1, after);
                if (rest >= 0) return rest * 8 + q;
            }
            return -1;
        }
    }

    /** Reads the text of a village; where it is at fault, start is the fault's place. */
    private static final class TextReader {
        private static final int AT_END = 0, NAME = 1, NUMBER = 2, OTHER = 3;

        final Village made = new Village();
        private final int[] bytes = new int[MOST_BYTES];
        private int length = 0;
        private int at = 0;
        private int token = AT_END;
        int start = 0;
        /** Of a NUMBER what it is (-1 if it has too many digits), of another byte this. */
        private int number = 0;

        boolean readText(int[] tape, int tapeLength) {
            length = Math.max(0, Math.min(tapeLength, MOST_BYTES));
            System.arraycopy(tape, 0, bytes, 0, Math.min(length, tape.length));
            at = 0;
            made.empty();
            advance();
            for (int statement = 0; statement <= length && token != AT_END; statement++) {
                if (!readStatement()) return false;
            }
            return true;
        }

        private boolean readStatement() {
            int kind = kindNamed();
            if (kind >= 0) return readPerson(kind);
            if (isName("proposal")) return readProposal();
            if (isName("need")) return readLaw(NEED, 1, MOST_NEED);
            if (isName("grow")) return readLaw(GROW, 0, MOST_GROW);
            if (!isName("turn")) return false;
            made.law[TURN] = 1;
            advance();
            return readEnd();
        }

        private boolean readPerson(int kind) {
            if (made.people >= MOST_PEOPLE) return false;
            advance();
            if (!isName("age")) return false;
            advance();
            if (!isNumber(0, MOST_AGE)) return false;
            int age = number;
            advance();
            int a = 0;
            if (isName("bar")) {
                advance();
                if (!isNumber(0, MOST_A)) return false;
                a = number;
                advance();
            }
            int noes = 1;
            if (isName("noes")) {
                advance();
                if (!isNumber(0, MOST_NOES)) return false;
                noes = number;
                advance();
            }
            made.addPerson(kind, a, age, noes);
            return readEnd();
        }

        private boolean readProposal() {
            if (made.proposals >= MOST_PROPOSALS) return false;
            advance();
            if (!isNumber(0, MOST_WEIGHT)) return false;
            int proposal = made.addProposal(number);
            advance();
            if (isName("worth") && !readWorths(proposal)) return false;
            return readEnd();
        }

        private boolean readWorths(int proposal) {
            for (int p = 0; p < made.people; p++) {
                advance();
                boolean below = isByte('-');
                if (below) advance();
                if (!isNumber(0, MOST_WORTH)) return false;
                made.worth[proposal][p] = below ? -number : number;
                advance();
                if (!isByte(',')) return true;
            }
            // There is no person for what comes next.
            advance();
            return false;
        }

        private boolean readLaw(int law, int least, int most) {
            advance();
            if (!isNumber(least, most)) return false;
            made.law[law] = number;
            advance();
            return readEnd();
        }

        private boolean readEnd() {
            if (!isByte(';')) return false;
            advance();
            return true;
        }

        private int kindNamed() {
            if (isName("sayer")) return SAYER;
            if (isName("quick")) return QUICK;
            if (isName("bar")) return BAR;
            if (isName("wait")) return WAIT;
            if (isName("league")) return LEAGUE;
            if (isName("told")) return TOLD;
            return -1;
        }

        private boolean isName(String name) {
            if (token != NAME || at - start != name.length()) return false;
            for (int i = 0; i < name.length(); i++) {
                if (bytes[start + i] != name.charAt(i)) return false;
            }
            return true;
        }

        private boolean isNumber(int least, int most) {
            return token == NUMBER && within(number, least, most);
        }

        private boolean isByte(int sign) {
            return token == OTHER && number == sign;
        }

        /** Goes to the next name, number, other byte or the end. */
        private void advance() {
            for (; at < length && bytes[at] == ' '; at++) {
            }
            start = at;
            if (at >= length) {
                token = AT_END;
            } else if (within(bytes[at], 'a', 'z')) {
                token = NAME;
                for (; at < length && within(bytes[at], 'a', 'z'); at++) {
                }
            } else if (within(bytes[at], '0', '9')) {
                token = NUMBER;
                takeNumber();
            } else {
                token = OTHER;
                number = bytes[at];
                at++;
            }
        }

        private void takeNumber() {
            number = 0;
            for (; at < length && bytes[at] >= '0' && bytes[at] <= '9'; at++) {
                if (at - start < 3) number = number * 10 + bytes[at] - '0';
            }
            if (at - start > 3) number = -1;
        }
    }

    /** A row of numbers, or none (sort MISSING). */
    private static final class Sheet {
        int sort = MISSING;
        int length = 0;
        final int[] items = new int[MOST_ITEMS];

        void become(int itsSort, int itsLength) {
            sort = itsSort;
            length = itsLength;
            for (int i = 0; i < MOST_ITEMS; i++) {
                items[i] = 0;
            }
        }
    }

    /** The numbers of the bodies that ran, and whether one of them parted by 0. */
    private static final class Trace {
        final int[] numbers = new int[MOST_BODIES];
        int count = 0;
        boolean parted = false;

        void clear() {
            count = 0;
            parted = false;
        }

        void begin(int body) {
            if (count < MOST_BODIES) {
                numbers[count] = body;
                count++;
            }
        }
    }

    private static class Sayer {
        final Trace trace;
        int n = 0;
        int a = 0;

        Sayer(Trace told) {
            trace = told;
        }

        int bars(int x) {
            trace.begin(10);
            return x + n;
        }

        int waits(int x) {
            trace.begin(11);
            return bars(x) * 2;
        }

        int shares(int x) {
            trace.begin(12);
            if (a == n) {
                trace.parted = true;
                return 0;
            }
            return x / (a - n);
        }

        int tells(int x) {
            trace.begin(13);
            return waits(x) ^ a;
        }
    }

    private static class Quick extends Sayer {
        Quick(Trace told) {
            super(told);
        }

        int waits(int x) {
            trace.begin(20);
            return super.waits(x) - a;
        }
    }

    private static class Bar extends Sayer {
        Bar(Trace told) {
            super(told);
        }

        int bars(int x) {
            trace.begin(30);
            return super.bars(x) * 3;
        }

        int tells(int x) {
            trace.begin(31);
            return super.tells(x) + shares(n);
        }
    }

    private static final class Wait extends Bar {
        Wait(Trace told) {
            super(told);
        }

        int bars(int x) {
            trace.begin(40);
            return 0 - super.bars(x);
        }

        int waits(int x) {
            trace.begin(41);
            return super.waits(x) + bars(n);
        }
    }

    private static final class League extends Quick {
        League(Trace told) {
            super(told);
        }

        int bars(int x) {
            trace.begin(51);
            return super.bars(x) - n;
        }

        int shares(int x) {
            trace.begin(50);
            return super.shares(x + 2) ^ 1;
        }
    }

    private static final class Told extends Sayer {
        Told(Trace told) {
            super(told);
        }

        int tells(int x) {
            trace.begin(60);
            return super.tells(x) * 2;
        }

        int shares(int x) {
            trace.begin(61);
            int own = super.shares(x);
            // What is parted by 0 ends the act: no other body runs.
            if (trace.parted) return 0;
            return own + bars(a);
        }
    }
}
