import java.util.Arrays;

/** Each sentence of "What it is" and "Terms": its limits from both sides, and what it says exactly. */
public final class BoundaryTerms {
    private static final int BAD = TableauNodes.BAD;
    private static final int NO = TableauNodes.NO;
    private static final int FULL = TableauNodes.FULL;
    private static final String TERMS = "Terms";

    private static final Sentences the = new Sentences();

    public static void main(String[] args) {
        lastCall();
        callsAfterTheLast();
        conceptLimit();
        conceptsOnce();
        atomLimit();
        atomOrder();
        allHolds();
        allMakes();
        axiomLimit();
        roleWays();
        typeLimit();
        conceptsByType();
        seeing();
        seeingBySomes();
        typesAtFirst();
        roundsLookBefore();
        eachSomeHasItsOwn();
        roundsEnd();
        thingLimit();
        saidLimits();
        modelTypes();
        theModel();
        theModelByLinks();
        the.allHeld(TERMS);
        the.end();
    }

    private static TableauNodes names(int count) {
        TableauNodes x = new TableauNodes();
        for (int k = 0; k < count; k++) {
            x.class0(k);
        }
        return x;
    }

    private static TableauNodes filledTo(int concepts) {
        return Sentences.made(x -> States.fillTo(x, concepts));
    }

    /** Calls of all sorts before it, and the 512th one still answers as it should. */
    private static void lastCall() {
        the.says("What it is", "An object is used for at most 512 calls after it has been made");
        the.due("512th, class0", afterCalls(511).class0(9), 6);
        the.due("512th, concept", afterCalls(511).concept(7, 3, 2), 7);
        the.due("512th, told", afterCalls(511).told(5, 2), 4);
        the.due("512th, concepts", afterCalls(511).concepts(), 6);
        the.due("512th, atoms", afterCalls(511).atoms(), 2);
        the.due("512th, axiom", afterCalls(511).axiom(2, 4), 1);
        the.due("512th, drop", afterCalls(511).drop(), 0);
        the.due("512th, role", afterCalls(511).role(0, 1), 0);
        the.due("512th, can", afterCalls(511).can(4), 1);
        the.due("512th, below", afterCalls(511).below(2, 3), 1);
        the.due("512th, types", afterCalls(511).types(), 3);
        the.due("512th, rounds", afterCalls(511).rounds(), 0);
        the.due("512th, depth", afterCalls(511).depth(1), NO);
        the.due("512th, individual", afterCalls(511).individual(4, 4), 3);
        the.due("512th, has", afterCalls(511).has(4, 3, 4), 2);
        the.due("512th, forget", afterCalls(511).forget(), 3);
        the.due("512th, run", afterCalls(511).run(), 1);
        the.due("512th, model", afterCalls(511).model(0), 3);
        the.due("512th, surely", afterCalls(511).surely(0, 3), 1);
    }

    /** Ten calls make something, the rest ask, refuse, or make something and take it back. */
    private static TableauNodes afterCalls(int count) {
        TableauNodes x = names(2);
        x.concept(3, 2, 0);
        x.concept(5, 2, 4);
        x.axiom(2, 3);
        x.role(0, 1);
        x.individual(0, 2);
        x.individual(1, 4);
        x.has(0, 0, 1);
        x.run();
        for (int n = 10; n < count; n += 2) {
            askAndBack(x, n % 12 / 2, count - n > 1);
        }
        return x;
    }

    private static void askAndBack(TableauNodes x, int which, boolean two) {
        switch (two ? which : 9) {
            case 0: x.axiom(0, 1); x.drop(); break;
            case 1: x.model(1); x.surely(1, 2); break;
            case 2: x.class0(1); x.concept(8, 0, 0); break;
            case 3: x.types(); x.depth(3); break;
            case 4: x.has(0, 4, 0); x.individual(5, 0); break;
            case 5: x.role(0, 1); x.rounds(); break;
            default: x.can(0); break;
        }
    }

    /** What later calls answer is free, but LANGUAGE.md lets none of them throw. */
    private static void callsAfterTheLast() {
        the.says("What it is", "what later calls answer is free.");
        TableauNodes x = Sentences.made(States.ALL_FULL);
        for (int n = 0; n < 3000; n++) {
            askAndBack(x, n % 6, true);
            x.individual(n % 5, n % 80);
            x.forget();
            x.axiom(n % 80, n * 7 % 80);
            x.concept(3 + n % 5, n % 4, n % 80);
        }
    }

    private static void conceptLimit() {
        the.says(TERMS, "CONCEPTS are kept once each, numbered from 0, at most 80: 0 THING, 1 NOTHING, "
                + "2 NAME k (0 .. 9), 3 NOT A, 4 A AND B, 5 A OR B, 6 SOME r A, 7 ALL r A; "
                + "r is a ROLE, 0 .. 3.");
        the.due("the 80th as NAME", filledTo(79).class0(9), 79);
        the.due("the 80th as NOT", filledTo(79).concept(3, 78, 0), 79);
        the.due("the 80th as AND", filledTo(79).concept(4, 78, 78), 79);
        the.due("the 80th as OR", filledTo(79).concept(5, 78, 78), 79);
        the.due("the 80th as SOME", filledTo(79).concept(6, 3, 78), 79);
        TableauNodes x = filledTo(78);
        x.concept(6, 3, 77);
        the.due("the 80th as ALL", x.concept(7, 3, 76), 79);
        the.due("81st as NAME", filledTo(80).class0(9), FULL);
        the.due("81st as NOT", filledTo(80).concept(3, 79, 0), FULL);
        the.due("81st as AND", filledTo(80).concept(4, 79, 79), FULL);
        the.due("81st as OR", filledTo(80).concept(5, 79, 79), FULL);
        the.due("81st as SOME", filledTo(80).concept(6, 3, 79), FULL);
        x = filledTo(79);
        x.concept(6, 3, 78);
        the.due("81st as ALL", x.concept(7, 3, 77), FULL);
        the.due("81st as ALL is not there", x.told(79, 0), 6);
        x = filledTo(80);
        the.due("the last concept's kind", x.told(79, 0), 3);
        the.due("the last concept's first", x.told(79, 1), 78);
        the.due("the last concept can be", x.can(79), 1);
        the.due("77 NOTs", x.below(79, 2), 0);
        the.due("76 NOTs", x.below(78, 2), 1);
    }

    /** The same numbers by another kind, or the other way round, are another concept. */
    private static void conceptsOnce() {
        the.says(TERMS, "CONCEPTS are kept once each, numbered from 0");
        TableauNodes x = names(4);
        int[][] parts = {
            {3, 0, 0}, {3, 2, 0}, {4, 0, 0}, {5, 0, 0}, {6, 0, 0}, {4, 2, 3}, {4, 3, 2}, {5, 2, 3},
            {5, 3, 2}, {6, 2, 3}, {6, 3, 2}, {4, 2, 0}, {5, 2, 0}, {6, 2, 0}, {4, 2, 2}, {5, 2, 2}
        };
        for (int n = 0; n < parts.length; n++) {
            the.due("new " + n, x.concept(parts[n][0], parts[n][1], parts[n][2]), 6 + n);
        }
        for (int n = 0; n < parts.length; n++) {
            the.due("again " + n, x.concept(parts[n][0], parts[n][1], parts[n][2]), 6 + n);
        }
        the.due("NAME 0 is not THING", x.class0(0), 2);
        the.due("none came", x.concepts(), 6 + parts.length);
        int all = x.concept(7, 2, 3);
        the.due("ALL 2 3 is not SOME 2 3", all, x.concepts() - 1);
        the.due("ALL again", x.concept(7, 2, 3), all);
        the.due("none came", x.concepts(), all + 1);
    }

    private static void atomLimit() {
        the.says(TERMS, "ATOMS are the names and the SOMEs, numbered from 0 in the order in which they "
                + "came, at most 10.");
        for (int names = 0; names <= 10; names++) {
            TableauNodes x = names(names);
            States.makeSomes(x, 10 - names);
            the.due("ten atoms, " + names + " being names", x.atoms(), 10);
            the.due("an eleventh, NAME", names == 10 ? FULL : x.class0(names), FULL);
            the.due("an eleventh, SOME", x.concept(6, 3, 3), FULL);
            the.due("an eleventh, by ALL", x.concept(7, 3, 0), FULL);
            the.due("still ten", x.atoms(), 10);
        }
        TableauNodes x = names(10);
        the.due("AND is no atom", x.concept(4, 2, 3), 12);
        the.due("OR is no atom", x.concept(5, 2, 3), 13);
        the.due("NOT is no atom", x.concept(3, 2, 0), 14);
        the.due("ten atoms", x.atoms(), 10);
    }

    /** Thing 0 being an atom and nothing more, its type is the atom's bit. */
    private static void atomOrder() {
        the.says(TERMS, "numbered from 0 in the order in which they came");
        int[] concepts = new int[10];
        TableauNodes x = new TableauNodes();
        concepts[0] = x.class0(9);
        concepts[1] = x.concept(6, 3, 0);
        concepts[2] = x.class0(0);
        x.concept(4, 2, 3);
        concepts[3] = x.concept(6, 0, 2);
        x.concept(7, 1, 2);
        concepts[4] = x.concept(6, 1, x.concept(3, 2, 0));
        concepts[5] = x.class0(5);
        concepts[6] = x.concept(6, 2, 0);
        concepts[7] = x.class0(8);
        concepts[8] = x.class0(1);
        concepts[9] = x.concept(6, 0, 4);
        the.due("atoms", x.atoms(), 10);
        for (int k = 0; k < 10; k++) {
            x.individual(0, concepts[k]);
            the.due("atom " + k + " alone", x.model(0), 1 << k);
            the.due("atom " + k + " surely", x.surely(0, concepts[k]), 1);
            the.due("it and no other", x.surely(0, concepts[(k + 1) % 10]), 0);
            x.forget();
        }
        for (int k = 0; k < 10; k++) {
            x.individual(0, concepts[k]);
            the.due("the first " + (k + 1) + " atoms", x.model(0), (2 << k) - 1);
        }
    }

    private static void allHolds() {
        the.says(TERMS, "ALL r A holds just when SOME r NOT A does not: these two are made with it.");
        for (int r = 0; r < 4; r++) {
            TableauNodes x = names(1);
            int all = x.concept(7, r, 2);
            int not = x.concept(3, x.concept(6, r, x.concept(3, 2, 0)), 0);
            the.due("ALL is below NOT SOME NOT", x.below(all, not), 1);
            the.due("NOT SOME NOT is below ALL", x.below(not, all), 1);
            the.due("ALL can be", x.can(all), 1);
            the.due("ALL need not be", x.below(0, all), 0);
            the.due("by type 0", x.model(0), 0);
            x.individual(0, all);
            the.due("a type with it", x.model(0), 0);
            x.individual(1, x.concept(3, all, 0));
            the.due("a type without it", x.model(1), 2);
        }
        TableauNodes x = new TableauNodes();
        the.due("ALL r THING always holds", x.below(0, x.concept(7, 0, 0)), 1);
        the.due("ALL r NOTHING need not", x.below(0, x.concept(7, 0, 1)), 0);
    }

    private static void allMakes() {
        the.says(TERMS, "these two are made with it");
        TableauNodes x = names(1);
        the.due("ALL", x.concept(7, 3, 2), 5);
        the.due("three came", x.concepts(), 6);
        the.due("one atom came", x.atoms(), 2);
        int[][] parts = {{3, 2, 0}, {6, 3, 3}, {7, 3, 2}};
        for (int n = 0; n < 9; n++) {
            the.due("told(" + (3 + n / 3) + ", " + n % 3 + ")", x.told(3 + n / 3, n % 3), parts[n / 3][n % 3]);
        }
        the.due("by another role NOT is there", x.concept(7, 2, 2), 7);
        the.due("two came", x.concepts(), 8);
        x.concept(6, 1, 3);
        the.due("both being there", x.concept(7, 1, 2), 9);
        the.due("one came", x.concepts(), 10);
        the.due("atoms", x.atoms(), 4);
    }

    /** The axioms say nothing but for the 30th and the 31st: the one counts, the other does not. */
    private static void axiomLimit() {
        the.says(TERMS, "AXIOMS, at most 30: each A is a B (concepts).");
        TableauNodes x = names(2);
        for (int n = 0; n < 29; n++) {
            the.due("axiom", x.axiom(1, 0), n);
        }
        the.due("nothing is asked yet", x.types(), 4);
        the.due("the 30th", x.axiom(2, 3), 29);
        the.due("it counts", x.below(2, 3), 1);
        the.due("it counts", x.types(), 3);
        the.due("the 31st", x.axiom(3, 2), FULL);
        the.due("it does not count", x.below(3, 2), 0);
        the.due("it does not count", x.types(), 3);
        for (int n = 29; n >= 0; n--) {
            the.due("drop", x.drop(), n);
        }
        the.due("none counts", x.types(), 4);
        TableauNodes y = names(2);
        y.axiom(2, 3);
        the.due("each A is a B", y.below(2, 3), 1);
        the.due("not each B is an A", y.below(3, 2), 0);
        the.due("A can be", y.can(2), 1);
        the.due("no A without B", y.depth(1), NO);
        the.due("B without A", y.depth(2), 0);
    }

    /** Role r is under s just when SOME r A is below SOME s A. */
    private static void roleWays() {
        the.says(TERMS, "ROLE AXIOMS: each r is an s; r is UNDER s, when it is s, or comes to it by such.");
        checkUnder("none said", new int[0], new int[] {1, 2, 4, 8});
        checkUnder("one step", new int[] {0, 3}, new int[] {9, 2, 4, 8});
        checkUnder("three steps up", new int[] {0, 1, 1, 2, 2, 3}, new int[] {15, 14, 12, 8});
        checkUnder("three steps, the last one first", new int[] {2, 3, 1, 2, 0, 1}, new int[] {15, 14, 12, 8});
        checkUnder("three steps down", new int[] {3, 2, 2, 1, 1, 0}, new int[] {1, 3, 7, 15});
        checkUnder("a ring", new int[] {0, 2, 2, 1, 1, 3, 3, 0}, new int[] {15, 15, 15, 15});
        checkUnder("of itself", new int[] {2, 2}, new int[] {1, 2, 4, 8});
        checkUnder("two ways", new int[] {0, 1, 0, 2, 1, 3, 2, 3}, new int[] {15, 10, 12, 8});
        checkUnder("two below one", new int[] {0, 3, 1, 3}, new int[] {9, 10, 4, 8});
    }

    /** An object for each two roles, with no SOME by the roles between them: under is more than a step. */
    private static void checkUnder(String what, int[] said, int[] above) {
        for (int n = 0; n < 16; n++) {
            int r = n / 4;
            int s = n % 4;
            TableauNodes x = new TableauNodes();
            int some = x.concept(6, r, 0);
            int other = x.concept(6, s, 0);
            the.due(what + ", nothing said yet", x.below(some, other), r == s ? 1 : 0);
            for (int m = 0; m < said.length; m += 2) {
                x.role(said[m], said[m + 1]);
            }
            the.due(what + ": " + r + " under " + s, x.below(some, other), above[r] >> s & 1);
            x.has(0, r, 1);
            the.due(what + ": has by " + r + ", so by " + s, x.surely(0, other), above[r] >> s & 1);
        }
    }

    private static void typeLimit() {
        the.says(TERMS, "A TYPE says of each atom whether it holds (bit k for atom k): it is a number "
                + "below 2 to the number of atoms.");
        TableauNodes x = new TableauNodes();
        for (int atoms = 0; atoms <= 10; atoms++) {
            int types = 1 << atoms;
            the.due("the last type of " + atoms + " atoms", x.depth(types - 1), 0);
            the.due("past it", x.depth(types), BAD);
            the.due("far past it", x.depth(1 << 10), BAD);
            the.due("before the first", x.depth(-1), BAD);
            the.due("before the first, by so many", x.depth(-types), BAD);
            the.due("all are good", x.types(), types);
            the.due("the first", x.depth(0), 0);
            x.class0(atoms);
        }
    }

    /** By the axiom "each THING is a C" just those types are there at first by which C holds. */
    private static void conceptsByType() {
        the.says(TERMS, "By it each concept holds or not: THING, not NOTHING, atoms as said, NOT, AND, OR, "
                + "ALL as told.");
        for (int type = 0; type < 8; type++) {
            boolean a = (type & 1) != 0;
            boolean b = (type & 2) != 0;
            boolean some = (type & 4) != 0;
            boolean[] held = {true, false, a, b, !a, some, a && b, a || b, !some, !(a && b), b && a, a};
            for (int c = 0; c < held.length; c++) {
                the.due("concept " + c + " by type " + type, firstDepth(c, type) == NO ? 0 : 1, held[c] ? 1 : 0);
            }
        }
    }

    private static int firstDepth(int concept, int type) {
        TableauNodes x = names(2);
        x.concept(3, 2, 0);
        x.concept(6, 1, 4);
        x.concept(4, 2, 3);
        x.concept(5, 2, 3);
        x.concept(7, 1, 2);
        x.concept(3, 6, 0);
        x.concept(4, 3, 2);
        x.concept(3, 4, 0);
        x.axiom(0, concept);
        return x.depth(type);
    }

    /** Two things with one type each: there is a model just when the first one sees the second one. */
    private static void seeing() {
        the.says(TERMS, "A type SEES another one by role r, when for all SOME s A that do not hold by the "
                + "first one, r being under s, A does not hold by the second one.");
        for (int r = 0; r < 4; r++) {
            for (int type = 0; type < 16; type++) {
                boolean some0 = (type & 2) != 0;
                boolean some1 = (type & 4) != 0;
                boolean some2 = (type & 8) != 0;
                boolean good = (!some0 || some1) && (!some2 || some1 && some0);
                boolean seesA = (r != 0 || some0) && (r > 2 || some1) && (r != 2 || some0 && some2);
                the.due("type " + type + " sees A by " + r, pinned(type, 1, r), good && seesA ? 1 : 0);
                the.due("type " + type + " sees NOT A by " + r, pinned(type, 0, r), good ? 1 : 0);
            }
        }
    }

    /** NAME 0 and SOME of it by roles 0, 1 and 2; 2 is under 0, and 0 is under 1. */
    private static int pinned(int first, int second, int r) {
        TableauNodes x = names(1);
        for (int s = 0; s < 3; s++) {
            x.concept(6, s, 2);
        }
        x.role(2, 0);
        x.role(0, 1);
        pin(x, 0, first, 4);
        pin(x, 1, second, 4);
        x.has(0, r, 1);
        return x.run();
    }

    /** SOME 0 THING, SOME 1 of that, SOME 0 of that: no name among the atoms, and no role axioms. */
    private static void seeingBySomes() {
        the.says(TERMS, "when for all SOME s A that do not hold by the first one, r being under s, A does not "
                + "hold by the second one.");
        for (int n = 0; n < 256; n++) {
            int r = n / 64;
            int first = n / 8 % 8;
            int second = n % 8;
            boolean good = isGoodOfSomes(first) && isGoodOfSomes(second);
            boolean sees = seesBySomes(first, second, r);
            the.due(first + " sees " + second + " by " + r, pinnedSomes(first, second, r), good && sees ? 1 : 0);
            if (first == second) {
                the.due(first + " sees itself by " + r, pinnedLoop(first, r), good && sees ? 1 : 0);
            }
        }
    }

    private static boolean isGoodOfSomes(int type) {
        return (type & 4) == 0 || (type & 1) != 0;
    }

    private static boolean seesBySomes(int first, int second, int r) {
        boolean byNone = r == 0 && (first & 1) == 0;
        boolean byThird = r == 0 && (first & 4) == 0 && (second & 2) != 0;
        boolean bySecond = r == 1 && (first & 2) == 0 && (second & 1) != 0;
        return !byNone && !byThird && !bySecond;
    }

    private static TableauNodes threeSomes() {
        TableauNodes x = new TableauNodes();
        x.concept(6, 0, 0);
        x.concept(6, 1, 2);
        x.concept(6, 0, 3);
        return x;
    }

    private static int pinnedSomes(int first, int second, int r) {
        TableauNodes x = threeSomes();
        pin(x, 3, first, 3);
        pin(x, 1, second, 3);
        x.has(3, r, 1);
        return x.run();
    }

    private static int pinnedLoop(int type, int r) {
        TableauNodes x = threeSomes();
        pin(x, 4, type, 3);
        x.has(4, r, 4);
        return x.run();
    }

    /** A thing with this type alone, atom k being concept 2 + k. */
    private static void pin(TableauNodes x, int i, int type, int atoms) {
        for (int k = 0; k < atoms; k++) {
            int not = x.concept(3, 2 + k, 0);
            x.individual(i, (type >> k & 1) == 1 ? 2 + k : not);
        }
    }

    private static void typesAtFirst() {
        the.says(TERMS, "GOOD types are found by ROUNDS: at first those by which for each axiom A, B: A does "
                + "not hold, or B does.");
        TableauNodes x = names(3);
        the.due("no axioms", x.types(), 8);
        x.axiom(2, 3);
        x.axiom(3, 4);
        int[] depths = {0, NO, NO, NO, 0, NO, 0, 0};
        for (int type = 0; type < 8; type++) {
            the.due("type " + type, x.depth(type), depths[type]);
        }
        x.axiom(0, 1);
        for (int type = 0; type < 8; type++) {
            the.due("none, type " + type, x.depth(type), NO);
        }
        the.due("none", x.types(), 0);
        the.due("no rounds", x.rounds(), 0);
        TableauNodes y = new TableauNodes();
        y.axiom(0, 1);
        the.due("no atoms, and none", y.types(), 0);
        the.due("no atoms, and none", y.depth(0), NO);
        y.drop();
        y.axiom(1, 0);
        the.due("no atoms, and one", y.types(), 1);
    }

    /** Each type rests on one that goes a round before it: on a lesser number or on a greater one. */
    private static void roundsLookBefore() {
        the.says(TERMS, "In a round all those that are there still go, of which for some SOME r A that holds "
                + "by it there is no type still there (before the round) that it sees by r and by which A holds.");
        for (int way = 0; way < 2; way++) {
            TableauNodes x = names(4);
            for (int n = 0; n < 3; n++) {
                x.concept(6, 0, 3 + (way == 0 ? n : 2 - n));
            }
            for (int n = 0; n < 3; n++) {
                int some = 6 + (way == 0 ? n : 2 - n);
                x.axiom(2 + n, some);
                the.due("its inside", x.told(some, 2), 3 + n);
            }
            x.axiom(5, 1);
            the.due("rounds", x.rounds(), 3);
            for (int n = 0; n < 3; n++) {
                int bit = 1 << 4 + (way == 0 ? n : 2 - n);
                the.due("SOME " + n + " alone", x.depth(bit), 3 - n);
                the.due("with its name", x.depth(bit | 1 << n), 3 - n);
            }
            the.due("no SOME", x.depth(0), 0);
            the.due("all SOMEs go with the first", x.depth(7 << 4), 1);
        }
        TableauNodes y = names(1);
        y.concept(6, 0, 2);
        y.axiom(2, 3);
        the.due("resting on itself", y.depth(3), 0);
        the.due("resting on another", y.depth(2), 0);
        y.concept(6, 0, y.concept(3, 2, 0));
        y.axiom(0, y.concept(3, 5, 0));
        the.due("types", y.types(), 3);
        the.due("all must be A", y.depth(3), 0);
    }

    /** Two SOMEs whose insides never go together: each one is served by a type of its own. */
    private static void eachSomeHasItsOwn() {
        the.says(TERMS, "for some SOME r A that holds by it there is no type still there");
        for (int r = 0; r < 4; r++) {
            TableauNodes x = names(2);
            x.concept(6, r, 2);
            x.concept(6, r, 3);
            x.concept(6, r, 0);
            x.axiom(2, x.concept(3, 3, 0));
            the.due("both SOMEs", x.depth(4 | 8 | 16), 0);
            the.due("the first one", x.depth(4 | 16), 0);
            the.due("the second one", x.depth(8 | 16), 0);
            the.due("some that is neither", x.depth(16), 0);
            the.due("none", x.depth(0), 0);
            the.due("the first one, but none", x.depth(4), 1);
            the.due("both, but none", x.depth(4 | 8), 1);
            the.due("both insides", x.depth(3), NO);
            x.axiom(3, 1);
            the.due("one of both is not served", x.depth(4 | 8 | 16), 1);
            the.due("the other one is", x.depth(4 | 16), 0);
            x.axiom(0, x.concept(5, 2, 4));
            the.due("some that is neither", x.depth(16), NO);
        }
    }

    private static void roundsEnd() {
        the.says(TERMS, "Rounds are made as long as some go.");
        for (int length = 1; length <= 5; length++) {
            TableauNodes x = names(length);
            for (int k = 0; k + 1 < length; k++) {
                x.axiom(2 + k, x.concept(6, 0, 3 + k));
            }
            the.due("none goes", x.rounds(), 0);
            x.axiom(1 + length, 1);
            the.due("a chain of " + length, x.rounds(), length - 1);
            the.due("one is left", x.types(), 1);
            x.axiom(0, 2);
            the.due("all must be the first", x.types(), 0);
            the.due("none is left in the end", x.rounds(), length - 1);
        }
    }

    private static void thingLimit() {
        the.says(TERMS, "THINGS are 0 .. 4.");
        TableauNodes x = names(1);
        for (int i = 0; i < 5; i++) {
            the.due("individual(" + i + ")", x.individual(i, 2), i + 1);
            the.due("has(" + i + ")", x.has(i, 0, 4 - i), i + 1);
            the.due("model(" + i + ")", x.model(i), 1);
            the.due("surely(" + i + ")", x.surely(i, 2), 1);
        }
        for (int i : new int[] {-1, 5}) {
            the.due("individual(" + i + ")", x.individual(i, 2), BAD);
            the.due("has(" + i + ", 0, 0)", x.has(i, 0, 0), BAD);
            the.due("has(0, 0, " + i + ")", x.has(0, 0, i), BAD);
            the.due("model(" + i + ")", x.model(i), BAD);
            the.due("surely(" + i + ")", x.surely(i, 2), BAD);
        }
    }

    private static void saidLimits() {
        the.says(TERMS, "What is said of them: thing i is an A (at most 40 such); thing i has thing j by r "
                + "(at most 40).");
        TableauNodes x = names(2);
        int some = x.concept(6, 0, 2);
        for (int n = 1; n < 40; n++) {
            the.due("individual", x.individual(0, 0), n);
            the.due("has", x.has(1, 1, 0), n);
        }
        the.due("the 40th", x.individual(0, 2), 40);
        the.due("it counts", x.model(0), 1);
        the.due("not yet", x.model(1), 0);
        the.due("the 40th", x.has(1, 0, 0), 40);
        the.due("it counts", x.surely(1, some), 1);
        the.due("the 41st", x.individual(0, 3), FULL);
        the.due("it does not count", x.model(0), 1);
        the.due("the 41st", x.has(2, 0, 0), FULL);
        the.due("it does not count", x.surely(2, some), 0);
        the.due("both", x.forget(), 80);
        the.due("room again", x.individual(0, 3), 1);
        the.due("room again", x.has(2, 0, 0), 1);
        the.due("nothing is left", x.model(0), 2);
        the.due("nothing is left", x.model(1), 0);
    }

    private static void modelTypes() {
        the.says(TERMS, "A MODEL gives each thing a good type, such that each thing is what is said of it, and "
                + "sees by r each thing that it has by r.");
        TableauNodes x = names(1);
        int none = x.concept(6, 0, 1);
        int some = x.concept(6, 0, 2);
        x.individual(0, none);
        the.due("no good type", x.run(), 0);
        x.forget();
        x.individual(4, some);
        x.individual(4, x.concept(3, 2, 0));
        the.due("two said of one thing", x.model(4), 4);
        x.individual(4, 2);
        the.due("three said that clash", x.run(), 0);
        x.forget();
        x.individual(3, 2);
        x.has(4, 0, 3);
        the.due("has an A", x.model(4), 4);
        the.due("is an A", x.model(3), 1);
        x.has(3, 0, 3);
        the.due("has itself", x.model(3), 5);
        x.has(3, 0, 4);
        x.individual(4, x.concept(3, some, 0));
        the.due("has an A, and does not", x.run(), 0);
        TableauNodes y = new TableauNodes();
        y.axiom(0, 1);
        the.due("nothing said, but no good type", y.run(), 0);
    }

    /** Two linked things: what the first one can spare itself comes before what the other one pays. */
    private static void theModel() {
        the.says(TERMS, "THE MODEL is the one with the least type of thing 0, then of thing 1, and so on.");
        for (int i = 0; i < 5; i++) {
            for (int j = i + 1; j < 5; j++) {
                TableauNodes x = names(1);
                int not = x.concept(3, 2, 0);
                int all = x.concept(7, 0, 2);
                int either = x.concept(5, 2, x.concept(3, all, 0));
                x.individual(i, either);
                x.individual(j, either);
                x.has(i, 0, j);
                x.has(j, 0, i);
                the.due("the first one is least", x.model(i), 1);
                the.due("the later one, given that", x.model(j), 1);
                x.individual(i, x.concept(5, not, x.concept(3, all, 0)));
                the.due("the first one, asked more", x.model(i), 2);
                for (int k = 0; k < 5; k++) {
                    the.due("both pay, no other does", x.model(k), k == i || k == j ? 2 : 0);
                }
            }
        }
        laterOnePays();
    }

    /** Thing j is an A or a B, A being less; but if thing i has it as an A, thing i is a SOME 0 A. */
    private static void laterOnePays() {
        for (int i = 0; i < 5; i++) {
            for (int j = 0; j < 5; j++) {
                if (i == j) {
                    continue;
                }
                TableauNodes x = names(1);
                x.concept(6, 0, 2);
                int b = x.class0(1);
                x.individual(j, x.concept(5, 2, b));
                x.has(i, 0, j);
                the.due(i + " has " + j, x.model(i), i < j ? 0 : 2);
                the.due(j + " is had by " + i, x.model(j), i < j ? 4 : 1);
            }
        }
    }

    /** Nothing is said of thing 0 but whom it has: each link asks for a bit, low and high ones. */
    private static void theModelByLinks() {
        the.says(TERMS, "sees by r each thing that it has by r. THE MODEL is the one with the least type of "
                + "thing 0");
        int[] bits = {1, 3, 6, 9};
        for (int set = 0; set < 16; set++) {
            TableauNodes x = new TableauNodes();
            for (int k = 0; k < 10; k++) {
                int r = Arrays.binarySearch(bits, k);
                the.due("atom " + k, r < 0 ? x.class0(k) : x.concept(6, r, 2), 2 + k);
            }
            x.individual(1, 2);
            int want = 0;
            for (int r = 0; r < 4; r++) {
                if ((set >> r & 1) != 0) {
                    the.due("before the link", x.model(0), want);
                    x.has(0, r, 1);
                    want |= 1 << bits[r];
                    the.due("after the link", x.model(0), want);
                }
            }
            the.due("the other one", x.model(1), 1);
            x.individual(0, x.concept(5, x.concept(3, 2 + 9, 0), 2 + 8));
            the.due("the last SOME asks for a name", x.model(0), want | (set >= 8 ? 256 : 0));
            the.due("all the others", x.model(4), 0);
        }
        theModelOfSome();
    }

    /** SOME THING as the first atom: bit 0 is asked for by any link. */
    private static void theModelOfSome() {
        for (int i = 0; i < 5; i++) {
            for (int j = 0; j < 5; j++) {
                TableauNodes x = new TableauNodes();
                x.concept(6, 2, 0);
                x.has(i, 1, j);
                the.due("by another role", x.model(i), 0);
                x.has(i, 2, j);
                the.due("by its role too", x.model(i), 1);
                x.has(i, 3, j);
                the.due("by a third role too", x.model(i), 1);
                the.due("no other thing", x.model((i + 1) % 5), 0);
                x.individual(i, x.concept(3, 2, 0));
                the.due("that can't be", x.model(i), NO);
            }
        }
    }
}
