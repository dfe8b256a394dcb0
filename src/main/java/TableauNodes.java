/**
 * Concepts of names, and, or, not, some and all over roles, with axioms and things: what can be,
 * what is below what, which things go together, decided exactly by types.
 *
 * <p>A set of types is a row of bits, one for each type that ten atoms could ever give. What a
 * concept says of a type looks only at atoms that were there when the concept was made, so its row
 * is worked out once and stays right when atoms come later.
 */
public final class TableauNodes {
    public static final int BAD = -1;
    public static final int NO = -2;
    public static final int FULL = -3;

    private static final int THING = 0;
    private static final int NOTHING = 1;
    private static final int NAME = 2;
    private static final int NOT = 3;
    private static final int AND = 4;
    private static final int OR = 5;
    private static final int SOME = 6;
    private static final int ALL = 7;

    private static final int NAMES = 10;
    private static final int ROLES = 4;
    private static final int THINGS = 5;
    private static final int MOST_CONCEPTS = 80;
    private static final int MOST_ATOMS = 10;
    private static final int MOST_TYPES = 1 << MOST_ATOMS;
    private static final int MOST_AXIOMS = 30;
    private static final int MOST_SAID = 40;

    private static final int WORD_BITS = 64;
    private static final int WORDS = MOST_TYPES / WORD_BITS;

    private final Concepts concepts;
    private final Roles roles;
    private final GoodTypes goods;
    private final Things things;

    public TableauNodes() {
        concepts = new Concepts();
        roles = new Roles();
        goods = new GoodTypes(concepts, roles);
        things = new Things(concepts, goods);
    }

    public int class0(int k) {
        return isBelow(k, NAMES) ? concepts.make(NAME, k, 0) : BAD;
    }

    public int concept(int kind, int a, int b) {
        switch (kind) {
            case NOT:
                return concepts.isThere(a) ? concepts.make(NOT, a, 0) : BAD;
            case AND:
            case OR:
                return concepts.isThere(a) && concepts.isThere(b) ? concepts.make(kind, a, b) : BAD;
            case SOME:
                return isBelow(a, ROLES) && concepts.isThere(b) ? concepts.make(SOME, a, b) : BAD;
            case ALL:
                return isBelow(a, ROLES) && concepts.isThere(b) ? concepts.makeAll(a, b) : BAD;
            default:
                return BAD;
        }
    }

    public int told(int concept, int what) {
        return concepts.isThere(concept) ? concepts.part(concept, what) : BAD;
    }

    public int concepts() {
        return concepts.size();
    }

    public int atoms() {
        return concepts.atomCount();
    }

    public int axiom(int a, int b) {
        return concepts.isThere(a) && concepts.isThere(b) ? goods.addAxiom(a, b) : BAD;
    }

    public int drop() {
        return goods.dropAxiom();
    }

    public int role(int r, int s) {
        if (!isBelow(r, ROLES) || !isBelow(s, ROLES)) {
            return BAD;
        }
        if (!roles.say(r, s)) {
            return 0;
        }
        goods.rolesChanged();
        return 1;
    }

    public int can(int concept) {
        if (!concepts.isThere(concept)) {
            return BAD;
        }
        goods.refresh();
        return goods.someAre(concept) ? 1 : 0;
    }

    public int below(int a, int b) {
        if (!concepts.isThere(a) || !concepts.isThere(b)) {
            return BAD;
        }
        goods.refresh();
        return goods.eachIs(a, b) ? 1 : 0;
    }

    public int types() {
        goods.refresh();
        return goods.size();
    }

    public int rounds() {
        goods.refresh();
        return goods.roundCount();
    }

    public int depth(int type) {
        if (!isBelow(type, concepts.typeCount())) {
            return BAD;
        }
        goods.refresh();
        return goods.depthOf(type);
    }

    public int individual(int i, int concept) {
        return isBelow(i, THINGS) && concepts.isThere(concept) ? things.sayIs(i, concept) : BAD;
    }

    public int has(int i, int r, int j) {
        boolean known = isBelow(i, THINGS) && isBelow(r, ROLES) && isBelow(j, THINGS);
        return known ? things.sayHas(i, r, j) : BAD;
    }

    public int forget() {
        return things.forgetAll();
    }

    public int run() {
        goods.refresh();
        things.settle();
        return things.goTogether() ? 1 : 0;
    }

    public int model(int i) {
        if (!isBelow(i, THINGS)) {
            return BAD;
        }
        goods.refresh();
        things.settle();
        return things.typeOf(i);
    }

    public int surely(int i, int concept) {
        if (!isBelow(i, THINGS) || !concepts.isThere(concept)) {
            return BAD;
        }
        goods.refresh();
        things.settle();
        return things.canLack(i, concept) ? 0 : 1;
    }

    private static boolean isBelow(int number, int bound) {
        return number >= 0 && number < bound;
    }

    private static boolean hasBit(long bits, int k) {
        return (bits >>> k & 1L) != 0;
    }

    private static int lowestBit(long bits) {
        return Long.bitCount((bits & -bits) - 1);
    }

    /** The concepts, each kept once, and the row of types by which each one holds. */
    private static final class Concepts {
        private static final int NOT_FOUND = -1;
        private static final int ATOMS_IN_WORD = 6;

        /** Which of the 64 types of a word have bit 0, 1, .. 5: the same in every word. */
        private static final long[] LOW_ATOM_WORDS = {
            0xAAAAAAAAAAAAAAAAL, 0xCCCCCCCCCCCCCCCCL, 0xF0F0F0F0F0F0F0F0L,
            0xFF00FF00FF00FF00L, 0xFFFF0000FFFF0000L, 0xFFFFFFFF00000000L
        };

        private final int[] kinds = new int[MOST_CONCEPTS];
        private final int[] firsts = new int[MOST_CONCEPTS];
        private final int[] seconds = new int[MOST_CONCEPTS];
        private final long[] rows = new long[MOST_CONCEPTS * WORDS];
        private final int[] atomConcepts = new int[MOST_ATOMS];

        /** Of each atom that is a SOME r A, the row of A. */
        private final long[] innerRows = new long[MOST_ATOMS * WORDS];

        /** Of each type: bit k says that atom k is a SOME r A and that A holds by the type. */
        private final int[] inners = new int[MOST_TYPES];

        private int count;
        private int atomCount;

        Concepts() {
            make(THING, 0, 0);
            make(NOTHING, 0, 0);
        }

        int size() {
            return count;
        }

        int atomCount() {
            return atomCount;
        }

        int typeCount() {
            return 1 << atomCount;
        }

        int wordCount() {
            return (typeCount() + WORD_BITS - 1) / WORD_BITS;
        }

        /** Those bits of a word that stand for types: with few atoms not even one word is full. */
        long typesInWord() {
            return typeCount() < WORD_BITS ? (1L << typeCount()) - 1 : -1L;
        }

        boolean isThere(int concept) {
            return concept >= 0 && concept < count;
        }

        int part(int concept, int what) {
            if (!isThere(concept)) {
                return BAD;
            }
            switch (what) {
                case 0:
                    return kinds[concept];
                case 1:
                    return firsts[concept];
                case 2:
                    return seconds[concept];
                default:
                    return BAD;
            }
        }

        int make(int kind, int a, int b) {
            int known = find(kind, a, b);
            return known == NOT_FOUND ? add(kind, a, b) : known;
        }

        int makeAll(int r, int b) {
            int known = find(ALL, r, b);
            if (known != NOT_FOUND) {
                return known;
            }
            int not = make(NOT, b, 0);
            if (not == FULL) {
                return FULL;
            }
            int some = make(SOME, r, not);
            return some == FULL ? FULL : add(ALL, r, b);
        }

        /** The types of word w by which a concept holds. */
        long word(int concept, int w) {
            boolean known = concept >= 0 && concept < count && w >= 0 && w < WORDS;
            return known ? rows[concept * WORDS + w] : 0L;
        }

        boolean holds(int concept, int type) {
            return hasBit(word(concept, type / WORD_BITS), type % WORD_BITS);
        }

        /** The types of word w that have bit k, whether or not atom k has come yet. */
        long atomWord(int k, int w) {
            if (k >= 0 && k < ATOMS_IN_WORD) {
                return LOW_ATOM_WORDS[k];
            }
            return (w >> (k - ATOMS_IN_WORD) & 1) != 0 ? -1L : 0L;
        }

        /** The types of word w by which A holds, atom k being SOME r A. */
        long innerWord(int k, int w) {
            boolean known = k >= 0 && k < MOST_ATOMS && w >= 0 && w < WORDS;
            return known ? innerRows[k * WORDS + w] : 0L;
        }

        int inners(int type) {
            return isBelow(type, MOST_TYPES) ? inners[type] : 0;
        }

        boolean isSome(int k) {
            return isBelow(k, atomCount) && kinds[atomConcepts[k]] == SOME;
        }

        int roleOfSome(int k) {
            return isSome(k) ? firsts[atomConcepts[k]] : 0;
        }

        private int find(int kind, int a, int b) {
            for (int c = 0; c < count; c++) {
                if (kinds[c] == kind && firsts[c] == a && seconds[c] == b) {
                    return c;
                }
            }
            return NOT_FOUND;
        }

        private int add(int kind, int a, int b) {
            boolean isAtom = kind == NAME || kind == SOME;
            if (count >= MOST_CONCEPTS || (isAtom && atomCount >= MOST_ATOMS)) {
                return FULL;
            }
            int made = count;
            kinds[made] = kind;
            firsts[made] = a;
            seconds[made] = b;
            int left = kind == ALL ? find(SOME, a, find(NOT, b, 0)) : a;
            for (int w = 0; w < WORDS; w++) {
                rows[made * WORDS + w] = newWord(kind, left, b, w);
            }
            count++;
            if (isAtom) {
                addAtom(made);
            }
            return made;
        }

        private long newWord(int kind, int left, int right, int w) {
            switch (kind) {
                case THING:
                    return -1L;
                case NAME:
                case SOME:
                    return atomWord(atomCount, w);
                case NOT:
                case ALL:
                    return ~word(left, w);
                case AND:
                    return word(left, w) & word(right, w);
                case OR:
                    return word(left, w) | word(right, w);
                default:
                    return 0L;
            }
        }

        private void addAtom(int concept) {
            int k = atomCount;
            atomConcepts[k] = concept;
            atomCount++;
            if (kinds[concept] == SOME) {
                noteInner(k, seconds[concept]);
            }
        }

        private void noteInner(int k, int inner) {
            for (int w = 0; w < WORDS; w++) {
                long types = word(inner, w);
                innerRows[k * WORDS + w] = types;
                for (int n = 0; n < WORD_BITS; n++) {
                    inners[w * WORD_BITS + n] |= hasBit(types, n) ? 1 << k : 0;
                }
            }
        }
    }

    /** Which role is under which. */
    private static final class Roles {
        /** Bit s of said[r]: that each r is an s was said. */
        private final int[] said = new int[ROLES];

        /** Bit s of above[r]: r is under s. */
        private final int[] above = new int[ROLES];

        Roles() {
            close();
        }

        /** False when that was said before. */
        boolean say(int r, int s) {
            if (!isBelow(r, ROLES) || hasBit(said[r], s)) {
                return false;
            }
            said[r] |= 1 << s;
            close();
            return true;
        }

        boolean isUnder(int r, int s) {
            return isBelow(r, ROLES) && hasBit(above[r], s);
        }

        private void close() {
            for (int r = 0; r < ROLES; r++) {
                above[r] = said[r] | 1 << r;
            }
            for (int middle = 0; middle < ROLES; middle++) {
                for (int r = 0; r < ROLES; r++) {
                    if (hasBit(above[r], middle)) {
                        above[r] |= above[middle];
                    }
                }
            }
        }
    }

    /** The axioms, and the types that are good by them; worked out anew only after a change. */
    private static final class GoodTypes {
        private final Concepts concepts;
        private final Roles roles;
        private final int[] lefts = new int[MOST_AXIOMS];
        private final int[] rights = new int[MOST_AXIOMS];
        private int axiomCount;

        /** Of each role r, the atoms that are a SOME r A. */
        private final int[] own = new int[ROLES];

        /** Of each role r, the atoms that are a SOME s A, r being under s. */
        private final int[] watched = new int[ROLES];

        private final long[] there = new long[WORDS];
        private final long[] going = new long[WORDS];
        private final int[] depths = new int[MOST_TYPES];
        private final int[] served = new int[MOST_TYPES];
        private int rounds;

        private boolean stale = true;
        private int atomsThen;
        private int version;

        GoodTypes(Concepts concepts, Roles roles) {
            this.concepts = concepts;
            this.roles = roles;
        }

        int addAxiom(int a, int b) {
            if (axiomCount >= MOST_AXIOMS) {
                return FULL;
            }
            lefts[axiomCount] = a;
            rights[axiomCount] = b;
            axiomCount++;
            stale = true;
            return axiomCount - 1;
        }

        int dropAxiom() {
            if (axiomCount <= 0) {
                return NO;
            }
            axiomCount--;
            stale = true;
            return axiomCount;
        }

        void rolesChanged() {
            stale = true;
        }

        /** To be called before anything is asked of the good types. */
        void refresh() {
            if (!stale && atomsThen == concepts.atomCount()) {
                return;
            }
            sortSomes();
            begin();
            rounds = 0;
            for (int round = 1; round <= MOST_TYPES && makeRound(round); round++) {
                rounds = round;
            }
            stale = false;
            atomsThen = concepts.atomCount();
            version++;
        }

        /** Another number each time the good types were worked out anew. */
        int version() {
            return version;
        }

        int size() {
            int sum = 0;
            for (int w = 0; w < WORDS; w++) {
                sum += Long.bitCount(there[w]);
            }
            return sum;
        }

        int roundCount() {
            return rounds;
        }

        int depthOf(int type) {
            return isBelow(type, MOST_TYPES) ? depths[type] : BAD;
        }

        boolean someAre(int concept) {
            for (int w = 0; w < WORDS; w++) {
                if ((there[w] & concepts.word(concept, w)) != 0) {
                    return true;
                }
            }
            return false;
        }

        boolean eachIs(int a, int b) {
            for (int w = 0; w < WORDS; w++) {
                if ((there[w] & concepts.word(a, w) & ~concepts.word(b, w)) != 0) {
                    return false;
                }
            }
            return true;
        }

        long word(int w) {
            return isBelow(w, WORDS) ? there[w] : 0L;
        }

        /** A type sees another by r when no atom of these fails by it whose inside holds there. */
        int watched(int r) {
            return isBelow(r, ROLES) ? watched[r] : 0;
        }

        private void sortSomes() {
            for (int r = 0; r < ROLES; r++) {
                own[r] = 0;
                watched[r] = 0;
                for (int k = 0; k < MOST_ATOMS; k++) {
                    if (!concepts.isSome(k)) {
                        continue;
                    }
                    int s = concepts.roleOfSome(k);
                    own[r] |= r == s ? 1 << k : 0;
                    watched[r] |= roles.isUnder(r, s) ? 1 << k : 0;
                }
            }
        }

        private void begin() {
            int words = concepts.wordCount();
            for (int w = 0; w < WORDS; w++) {
                there[w] = w < words ? keptByAxioms(concepts.typesInWord(), w) : 0L;
            }
            int types = concepts.typeCount();
            for (int type = 0; type < types && type < MOST_TYPES; type++) {
                depths[type] = isThere(type) ? 0 : NO;
            }
        }

        private long keptByAxioms(long word, int w) {
            long kept = word;
            for (int n = 0; n < axiomCount && n < MOST_AXIOMS; n++) {
                kept &= ~concepts.word(lefts[n], w) | concepts.word(rights[n], w);
            }
            return kept;
        }

        private boolean isThere(int type) {
            return hasBit(there[type / WORD_BITS], type % WORD_BITS);
        }

        /** False when none goes. */
        private boolean makeRound(int round) {
            for (int r = 0; r < ROLES; r++) {
                if (own[r] != 0) {
                    markUnserved(r);
                }
            }
            boolean some = false;
            for (int w = 0; w < WORDS; w++) {
                some = some || going[w] != 0;
                takeAway(w, round);
            }
            return some;
        }

        private void takeAway(int w, int round) {
            long left = going[w];
            for (int n = Long.bitCount(left); n > 0; n--) {
                depths[w * WORD_BITS + lowestBit(left)] = round;
                left &= left - 1;
            }
            there[w] &= ~going[w];
            going[w] = 0L;
        }

        private void markUnserved(int r) {
            findServed(r);
            int types = concepts.typeCount();
            for (int type = 0; type < types && type < MOST_TYPES; type++) {
                if (isThere(type) && (type & own[r] & ~served[type & watched[r]]) != 0) {
                    going[type / WORD_BITS] |= 1L << type % WORD_BITS;
                }
            }
        }

        /**
         * For each set of watched atoms that hold: which SOME r A have a type with A that is seen.
         * Seeing looks at these atoms alone, and what fewer atoms see, more atoms see too: so the
         * sets need not be held against all types one by one.
         */
        private void findServed(int r) {
            int mask = watched[r] & (MOST_TYPES - 1);
            int sets = 1 << Integer.bitCount(mask);
            for (int n = 0, set = 0; n < sets; n++, set = (set - mask) & mask) {
                served[set] = 0;
            }
            int types = concepts.typeCount();
            for (int type = 0; type < types && type < MOST_TYPES; type++) {
                if (isThere(type)) {
                    int inners = concepts.inners(type);
                    served[inners & mask] |= inners & own[r];
                }
            }
            for (int k = 0; k < MOST_ATOMS; k++) {
                if (hasBit(mask, k)) {
                    spreadServed(mask, sets, 1 << k);
                }
            }
        }

        private void spreadServed(int mask, int sets, int bit) {
            for (int n = 0, set = 0; n < sets; n++, set = (set - mask) & mask) {
                if ((set & bit) != 0) {
                    served[set] |= served[set & ~bit];
                }
            }
        }
    }

    /**
     * What is said of the things, and their MODEL.
     *
     * <p>A type sees another one by a role when it has every atom that is watched by the role and
     * whose inside holds by the other one. So of a thing's type only this matters to the other things:
     * which watched atoms it lacks, and which insides hold by it. The fewer of both, the less it
     * DEMANDS of the others, and among its types only those need be tried that demand least.
     */
    private static final class Things {
        private static final int EVERY_THING = (1 << THINGS) - 1;
        private static final int LEVEL_WORDS = THINGS * WORDS;

        private final Concepts concepts;
        private final GoodTypes goods;

        /** Of each thing, the types by which all holds that it is said to be. */
        private final long[] said = new long[THINGS * WORDS];

        /** Of each two things, the roles by which the first one has the second one. */
        private final int[] rolesOf = new int[THINGS * THINGS];

        /** Of each two things, the atoms that are watched by one of these roles. */
        private final int[] links = new int[THINGS * THINGS];

        private int isCount;
        private int hasCount;

        /** Of each level of the search and each thing, the types that are left to it. */
        private final long[] left = new long[THINGS * LEVEL_WORDS];

        /** Of each level but the last, what the thing that is tried there can ask of the rest. */
        private final int[] demands = new int[(THINGS - 1) * MOST_TYPES];

        private final long[] spare = new long[WORDS];

        /** How many words have types now: with few atoms a search need not look at the others. */
        private int words;

        private final int[] found = new int[THINGS];
        private boolean isFound;
        private boolean stale;
        private int versionThen;

        Things(Concepts concepts, GoodTypes goods) {
            this.concepts = concepts;
            this.goods = goods;
            clear();
        }

        int sayIs(int i, int concept) {
            if (isCount >= MOST_SAID || !isBelow(i, THINGS)) {
                return FULL;
            }
            for (int w = 0; w < WORDS; w++) {
                said[i * WORDS + w] &= concepts.word(concept, w);
            }
            stale = true;
            isCount++;
            return isCount;
        }

        int sayHas(int i, int r, int j) {
            if (hasCount >= MOST_SAID || !isBelow(i, THINGS) || !isBelow(j, THINGS)) {
                return FULL;
            }
            rolesOf[i * THINGS + j] |= 1 << r;
            stale = true;
            hasCount++;
            return hasCount;
        }

        int forgetAll() {
            int sum = isCount + hasCount;
            clear();
            return sum;
        }

        /** To be called, the good types being fresh, before anything is asked of the MODEL. */
        void settle() {
            if (!stale && versionThen == goods.version()) {
                return;
            }
            sortLinks();
            begin();
            isFound = canExtend(0, EVERY_THING);
            for (int i = 0; i < THINGS; i++) {
                if (isFound && !leaveFirst(i)) {
                    leaveLeast(i);
                }
                found[i] = isFound ? firstLeft(i) : NO;
            }
            stale = false;
            versionThen = goods.version();
        }

        boolean goTogether() {
            return isFound;
        }

        int typeOf(int i) {
            return isBelow(i, THINGS) ? found[i] : BAD;
        }

        /** Whether in some MODEL thing i is not a concept. */
        boolean canLack(int i, int concept) {
            if (!isFound || !isBelow(i, THINGS)) {
                return false;
            }
            if (!concepts.holds(concept, found[i])) {
                return true;
            }
            begin();
            for (int w = 0; w < words; w++) {
                left[i * WORDS + w] &= ~concepts.word(concept, w);
            }
            return canExtend(0, EVERY_THING);
        }

        private void clear() {
            for (int n = 0; n < THINGS * WORDS; n++) {
                said[n] = -1L;
            }
            for (int n = 0; n < THINGS * THINGS; n++) {
                rolesOf[n] = 0;
            }
            isCount = 0;
            hasCount = 0;
            stale = true;
        }

        private void sortLinks() {
            for (int n = 0; n < THINGS * THINGS; n++) {
                links[n] = 0;
                for (int r = 0; r < ROLES; r++) {
                    links[n] |= hasBit(rolesOf[n], r) ? goods.watched(r) : 0;
                }
            }
        }

        private void begin() {
            words = Math.min(concepts.wordCount(), WORDS);
            for (int i = 0; i < THINGS; i++) {
                int loop = links[i * THINGS + i];
                for (int w = 0; w < words; w++) {
                    long types = goods.word(w) & said[i * WORDS + w];
                    left[i * WORDS + w] = seeingThemselves(types, loop, w);
                }
            }
        }

        private long seeingThemselves(long types, int loop, int w) {
            long kept = types;
            for (int k = 0; k < MOST_ATOMS && kept != 0; k++) {
                if (hasBit(loop, k)) {
                    kept &= concepts.atomWord(k, w) | ~concepts.innerWord(k, w);
                }
            }
            return kept;
        }

        private int countLeft(int level, int i) {
            int from = level * LEVEL_WORDS + i * WORDS;
            int sum = 0;
            for (int w = 0; w < words; w++) {
                sum += Long.bitCount(left[from + w]);
            }
            return sum;
        }

        /**
         * Whether the open things go together by the types left to them at this level. A last one
         * does: passOn has left it some.
         */
        private boolean canExtend(int level, int open) {
            if (Integer.bitCount(open) < 2) {
                return true;
            }
            if (level + 1 >= THINGS) {
                return false;
            }
            int thing = mostBound(level, open);
            int rest = open & ~(1 << thing);
            int count = findDemands(level, thing, rest);
            for (int n = 0; n < count; n++) {
                int demand = demands[level * MOST_TYPES + n];
                if (passOn(level, thing, rest, demand) && canExtend(level + 1, rest)) {
                    return true;
                }
            }
            return false;
        }

        /** The open thing with the fewest types left: a clash, or that none is left, shows soonest. */
        private int mostBound(int level, int open) {
            int best = 0;
            int fewest = MOST_TYPES + 1;
            for (int i = 0; i < THINGS; i++) {
                int size = hasBit(open, i) ? countLeft(level, i) : fewest;
                if (size < fewest) {
                    best = i;
                    fewest = size;
                }
            }
            return best;
        }

        /** Writes down the least demands that the types left to a thing make on the rest. */
        private int findDemands(int level, int thing, int rest) {
            int out = 0;
            int in = 0;
            for (int j = 0; j < THINGS; j++) {
                if (hasBit(rest, j)) {
                    out |= links[thing * THINGS + j];
                    in |= links[j * THINGS + thing];
                }
            }
            int from = level * LEVEL_WORDS + thing * WORDS;
            int count = 0;
            for (int w = 0; w < words; w++) {
                long types = left[from + w];
                for (int n = Long.bitCount(types); n > 0; n--) {
                    int type = w * WORD_BITS + lowestBit(types);
                    int demand = (out & ~type) << MOST_ATOMS | in & concepts.inners(type);
                    count = addDemand(level * MOST_TYPES, count, demand);
                    types &= types - 1;
                }
            }
            return count;
        }

        private int addDemand(int from, int count, int demand) {
            for (int n = 0; n < count; n++) {
                if ((demands[from + n] & ~demand) == 0) {
                    return count;
                }
            }
            int kept = 0;
            for (int n = 0; n < count; n++) {
                if ((demand & ~demands[from + n]) != 0) {
                    demands[from + kept] = demands[from + n];
                    kept++;
                }
            }
            demands[from + kept] = demand;
            return kept + 1;
        }

        /** Lays the next level by a thing's demand; false when nothing is left to one of the rest. */
        private boolean passOn(int level, int thing, int rest, int demand) {
            int lacked = demand >> MOST_ATOMS;
            for (int j = 0; j < THINGS; j++) {
                if (!hasBit(rest, j)) {
                    continue;
                }
                int needed = demand & links[j * THINGS + thing];
                int banned = lacked & links[thing * THINGS + j];
                int from = level * LEVEL_WORDS + j * WORDS;
                long any = 0L;
                for (int w = 0; w < words; w++) {
                    long kept = fitting(left[from + w], needed, banned, w);
                    left[from + LEVEL_WORDS + w] = kept;
                    any |= kept;
                }
                if (any == 0) {
                    return false;
                }
            }
            return true;
        }

        /** Those types that have the needed atoms and by which no banned atom's inside holds. */
        private long fitting(long types, int needed, int banned, int w) {
            long kept = types;
            int asked = needed | banned;
            for (int k = 0; k < MOST_ATOMS && kept != 0 && asked >> k != 0; k++) {
                if (hasBit(needed, k)) {
                    kept &= concepts.atomWord(k, w);
                }
                if (hasBit(banned, k)) {
                    kept &= ~concepts.innerWord(k, w);
                }
            }
            return kept;
        }

        /** Leaves thing i its first type alone if all go together so; if not, takes it away. */
        private boolean leaveFirst(int i) {
            int first = firstLeft(i);
            keepSpare(i);
            for (int w = 0; w < words; w++) {
                left[i * WORDS + w] = 0L;
            }
            int at = i * WORDS + first / WORD_BITS;
            long bit = 1L << first % WORD_BITS;
            left[at] = bit;
            if (canExtend(0, EVERY_THING)) {
                return true;
            }
            takeSpare(i);
            left[at] &= ~bit;
            return false;
        }

        /**
         * Leaves thing i the least type alone with which all go together. The type's bits are found
         * from the highest one down, so that ten searches are enough, not one for each type.
         */
        private void leaveLeast(int i) {
            for (int k = concepts.atomCount() - 1; k >= 0; k--) {
                int before = countLeft(0, i);
                keepSpare(i);
                leaveHalf(i, k, false);
                int after = countLeft(0, i);
                if (after != before && !canExtend(0, EVERY_THING)) {
                    takeSpare(i);
                    leaveHalf(i, k, true);
                }
            }
        }

        /** Leaves thing i the types with bit k alone, or those without it. */
        private void leaveHalf(int i, int k, boolean with) {
            for (int w = 0; w < words; w++) {
                long half = concepts.atomWord(k, w);
                left[i * WORDS + w] &= with ? half : ~half;
            }
        }

        private void keepSpare(int i) {
            System.arraycopy(left, i * WORDS, spare, 0, WORDS);
        }

        private void takeSpare(int i) {
            System.arraycopy(spare, 0, left, i * WORDS, WORDS);
        }

        private int firstLeft(int i) {
            for (int w = 0; w < words; w++) {
                long types = left[i * WORDS + w];
                if (types != 0) {
                    return w * WORD_BITS + lowestBit(types);
                }
            }
            return 0;
        }
    }
}
