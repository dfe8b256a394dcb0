import java.util.ArrayList;
import java.util.List;
import java.util.function.IntFunction;

/** Each sentence of the promises: its bounds from both sides, the empty object, the full one, refused calls. */
public final class BoundaryPromises {
    private static final int BAD = TableauNodes.BAD;
    private static final int NO = TableauNodes.NO;
    private static final int FULL = TableauNodes.FULL;
    private static final Sentences.Calls[] STATES = {
        States.EMPTY, States.ORDINARY, States.FULL_OF_CONCEPTS, States.FULL_OF_ATOMS, States.ALL_FULL
    };

    private static final Sentences the = new Sentences();

    public static void main(String[] args) {
        newObject();
        class0Makes();
        class0Bad();
        class0Full();
        conceptMakes();
        conceptIgnoresB();
        conceptFull();
        allWithoutRoom();
        conceptBad();
        toldParts();
        toldBad();
        howManyConcepts();
        howManyAtoms();
        axiomNumbers();
        axiomBadFull();
        dropCounts();
        roleSaid();
        roleBad();
        canBe();
        isBelow();
        howManyTypes();
        howManyRounds();
        depths();
        depthBad();
        individualCounts();
        individualBadFull();
        hasCounts();
        hasBadFull();
        forgetCounts();
        runAnswers();
        modelAnswers();
        surelyAnswers();
        for (int promise = 1; promise <= 20; promise++) {
            the.allHeld("Promise " + promise);
        }
        the.end();
    }

    private static TableauNodes names(int count) {
        TableauNodes x = new TableauNodes();
        for (int k = 0; k < count; k++) {
            x.class0(k);
        }
        return x;
    }

    private static TableauNodes filledTo(int concepts) {
        return Sentences.made(x -> States.fillTo(x, concepts));
    }

    /** In every state each of the numbers past the bound is BAD, and nothing has changed after it. */
    private static void bad(String what, int bound, IntFunction<Sentences.Ask> callOf) {
        for (Sentences.Calls state : STATES) {
            the.refused(what, state, BAD, calls(bound, callOf));
        }
    }

    /** The same for a concept's number, whose bound is another one in each state. */
    private static void badConcept(String what, IntFunction<Sentences.Ask> callOf) {
        for (Sentences.Calls state : STATES) {
            the.refused(what, state, BAD, calls(Sentences.made(state).concepts(), callOf));
        }
    }

    private static List<Sentences.Ask> calls(int bound, IntFunction<Sentences.Ask> callOf) {
        List<Sentences.Ask> calls = new ArrayList<>();
        for (int n : States.outside(bound)) {
            calls.add(callOf.apply(n));
        }
        return calls;
    }

    private static void newObject() {
        the.says("Promise 1", "THING and NOTHING alone; no axioms, nothing is said.");
        the.due("BAD", BAD, -1);
        the.due("NO", NO, -2);
        the.due("FULL", FULL, -3);
        TableauNodes x = new TableauNodes();
        the.due("concepts", x.concepts(), 2);
        the.due("atoms", x.atoms(), 0);
        the.due("THING", x.told(0, 0), 0);
        the.due("NOTHING", x.told(1, 0), 1);
        the.due("alone", x.told(2, 0), BAD);
        the.due("THING can be", x.can(0), 1);
        the.due("NOTHING can't", x.can(1), 0);
        the.due("no third", x.can(2), BAD);
        the.due("NOTHING is below THING", x.below(1, 0), 1);
        the.due("THING is not below NOTHING", x.below(0, 1), 0);
        the.due("types", x.types(), 1);
        the.due("rounds", x.rounds(), 0);
        the.due("the one type", x.depth(0), 0);
        the.due("run", x.run(), 1);
        for (int i = 0; i < 5; i++) {
            the.due("model(" + i + ")", x.model(i), 0);
            the.due("surely THING", x.surely(i, 0), 1);
            the.due("surely NOTHING", x.surely(i, 1), 0);
        }
        the.due("no axioms", x.drop(), NO);
        the.due("nothing is said", x.forget(), 0);
        for (int n = 0; n < 16; n++) {
            the.due("no role axioms", x.role(n / 4, n % 4), 1);
        }
        the.due("first axiom", x.axiom(1, 0), 0);
        the.due("first of a thing", x.individual(0, 0), 1);
        the.due("first of two things", x.has(0, 0, 0), 1);
        the.due("first name", x.class0(0), 2);
        TableauNodes full = Sentences.made(States.ALL_FULL);
        the.due("beside a full one", new TableauNodes().concepts(), 2);
        the.due("beside a full one", new TableauNodes().forget(), 0);
        the.due("the full one", full.forget(), 80);
    }

    private static void class0Makes() {
        the.says("Promise 2", "NAME k as a concept, made if it is not there: its number.");
        for (int k = 0; k < 10; k++) {
            TableauNodes x = new TableauNodes();
            the.due("made", x.class0(k), 2);
            the.due("kind", x.told(2, 0), 2);
            the.due("k", x.told(2, 1), k);
            the.due("concepts", x.concepts(), 3);
            the.due("atoms", x.atoms(), 1);
            the.due("there", x.class0(k), 2);
            the.due("concepts", x.concepts(), 3);
            the.due("atoms", x.atoms(), 1);
        }
        TableauNodes x = new TableauNodes();
        for (int k = 9; k >= 0; k--) {
            the.due("all ten, the last one first", x.class0(k), 11 - k);
        }
        for (int k = 9; k >= 0; k--) {
            the.due("all ten again", x.class0(k), 11 - k);
        }
        the.due("ten atoms", x.atoms(), 10);
    }

    private static void class0Bad() {
        the.says("Promise 2", "BAD; FULL when there are 80 concepts, or 10 atoms.");
        bad("class0", 10, k -> x -> x.class0(k));
    }

    private static void class0Full() {
        the.says("Promise 2", "FULL when there are 80 concepts, or 10 atoms.");
        the.due("78 concepts", filledTo(78).class0(9), 78);
        the.due("79 concepts", filledTo(79).class0(9), 79);
        List<Sentences.Ask> others = new ArrayList<>();
        for (int n = 1; n < 10; n++) {
            int k = n;
            others.add(x -> x.class0(k));
        }
        the.refused("class0, 80 concepts", States.FULL_OF_CONCEPTS, FULL, others);
        the.refused("class0, 10 atoms", States.FULL_OF_ATOMS, FULL, others);
        the.refused("class0, both", States.ALL_FULL, FULL, others.subList(4, 9));
        the.due("80 concepts, but there", filledTo(80).class0(0), 2);
        TableauNodes x = Sentences.made(y -> States.makeSomes(y, 8));
        the.due("8 atoms", x.class0(9), 10);
        the.due("9 atoms", x.class0(0), 11);
        the.due("10 atoms", x.class0(1), FULL);
        the.due("10 atoms, but there", x.class0(9), 10);
        the.due("10 atoms, but there", x.class0(0), 11);
        the.due("atoms", x.atoms(), 10);
        the.due("concepts", x.concepts(), 12);
    }

    private static void conceptMakes() {
        the.says("Promise 3", "Likewise: NOT a (kind 3; b is not looked at), a AND b (4), a OR b (5), SOME a b "
                + "(6), ALL a b (7; a is the role).");
        for (int r = 0; r < 4; r++) {
            TableauNodes x = names(1);
            the.due("SOME", x.concept(6, r, 2), 3);
            the.due("SOME of THING", x.concept(6, r, 0), 4);
            the.due("SOME of the last one", x.concept(6, r, 4), 5);
            the.due("ALL, making two more", x.concept(7, r, 5), 8);
            the.due("ALL again", x.concept(7, r, 5), 8);
            the.due("the role", x.told(8, 1), r);
            the.due("SOME of ALL", x.concept(6, r, 8), 9);
        }
        TableauNodes x = names(2);
        for (int kind = 4; kind <= 5; kind++) {
            int made = x.concept(kind, 2, 3);
            the.due("made", made, kind);
            the.due("there", x.concept(kind, 2, 3), made);
            the.due("its kind", x.told(made, 0), kind);
        }
        the.due("AND of the last one with the first one", x.concept(4, 5, 0), 6);
        the.due("OR of the first one with the last one", x.concept(5, 0, 6), 7);
        the.due("AND of one with itself", x.concept(4, 7, 7), 8);
        the.due("concepts", x.concepts(), 9);
        the.due("atoms", x.atoms(), 2);
        TableauNodes y = new TableauNodes();
        the.due("NOT THING", y.concept(3, 0, 0), 2);
        the.due("NOT NOTHING", y.concept(3, 1, 0), 3);
        the.due("THING AND NOTHING", y.concept(4, 0, 1), 4);
        the.due("THING OR NOTHING", y.concept(5, 0, 1), 5);
        the.due("SOME 3 NOTHING", y.concept(6, 3, 1), 6);
        the.due("ALL 3 NOTHING, NOT being there", y.concept(7, 3, 1), 8);
    }

    private static void conceptIgnoresB() {
        the.says("Promise 3", "b is not looked at");
        TableauNodes x = names(1);
        the.due("b is the greatest int", x.concept(3, 2, Integer.MAX_VALUE), 3);
        the.due("it has no second number", x.told(3, 2), 0);
        for (int b : States.outside(4)) {
            the.due("b is " + b, x.concept(3, 2, b), 3);
        }
        for (int b = 0; b < 5; b++) {
            the.due("b is " + b, x.concept(3, 2, b), 3);
        }
        the.due("concepts", x.concepts(), 4);
        int both = x.concept(4, 2, 3);
        the.due("it is NOT", x.can(both), 0);
    }

    private static void conceptFull() {
        the.says("Promise 3", "FULL also when there is no room for all that has to be made");
        List<Sentences.Ask> any = List.of(
                x -> x.concept(3, 79, 0), x -> x.concept(4, 79, 79), x -> x.concept(4, 0, 1),
                x -> x.concept(5, 79, 79), x -> x.concept(5, 1, 0), x -> x.concept(6, 3, 79),
                x -> x.concept(6, 0, 0), x -> x.concept(7, 3, 79), x -> x.concept(7, 0, 79));
        the.refused("80 concepts", States.FULL_OF_CONCEPTS, FULL, any);
        the.refused("80 concepts and 10 atoms", States.ALL_FULL, FULL, any);
        the.refused("10 atoms", States.FULL_OF_ATOMS, FULL,
                List.of(x -> x.concept(6, 3, 3), x -> x.concept(6, 0, 11), x -> x.concept(6, 2, 2)));
        TableauNodes x = Sentences.made(States.FULL_OF_CONCEPTS);
        the.due("80 concepts, but NOT is there", x.concept(3, 2, 0), 3);
        the.due("80 concepts, but NOT is there", x.concept(3, 78, 0), 79);
        TableauNodes y = Sentences.made(States.ALL_FULL);
        the.due("full, but AND is there", y.concept(4, 13, 4), 14);
        the.due("full, but OR is there", y.concept(5, 14, 5), 15);
        the.due("full, but SOME is there", y.concept(6, 0, 5), 13);
        the.due("full, but ALL is there", y.concept(7, 0, 2), 9);
        TableauNodes z = Sentences.made(States.FULL_OF_ATOMS);
        the.due("10 atoms, but SOME is there", z.concept(6, 1, 2), 11);
        the.due("10 atoms, NOT is none", z.concept(3, 11, 0), 12);
        the.due("10 atoms, AND is none", z.concept(4, 11, 2), 13);
        the.due("10 atoms, OR is none", z.concept(5, 11, 2), 14);
        the.due("9 atoms", Sentences.made(w -> States.makeSomes(w, 9)).concept(6, 1, 2), 11);
    }

    private static void allWithoutRoom() {
        the.says("Promise 3", "(NOT b, then SOME a of it, then itself; those for which there is room are made)");
        the.due("room for three", filledTo(77).concept(7, 2, 76), 79);
        checkParts("room for three", filledTo(77), 76, 79, new int[] {3, 76, 0, 6, 2, 77, 7, 2, 76});
        checkParts("room for two", filledTo(78), 77, FULL, new int[] {3, 77, 0, 6, 2, 78});
        checkParts("room for one", filledTo(79), 78, FULL, new int[] {3, 78, 0});
        checkParts("room for none", filledTo(80), 79, FULL, new int[0]);
        checkParts("NOT there, room for two", filledTo(78), 76, 79, new int[] {6, 2, 77, 7, 2, 76});
        checkParts("NOT there, room for one", filledTo(79), 77, FULL, new int[] {6, 2, 78});
        checkParts("NOT there, room for none", filledTo(80), 78, FULL, new int[0]);
        TableauNodes x = filledTo(78);
        x.concept(6, 2, 77);
        checkParts("both there, room for one", x, 76, 79, new int[] {7, 2, 76});
        TableauNodes y = filledTo(79);
        y.concept(6, 2, 78);
        checkParts("both there, room for none", y, 77, FULL, new int[0]);
        TableauNodes z = filledTo(77);
        z.concept(7, 2, 76);
        checkParts("all three there", z, 76, 79, new int[0]);
        allWithoutAtoms();
    }

    /** ALL 2 b is asked for twice: what is made then, and that the second call makes nothing more. */
    private static void checkParts(String what, TableauNodes x, int b, int answer, int[] parts) {
        int before = x.concepts();
        the.due(what, x.concept(7, 2, b), answer);
        the.due(what + ", concepts", x.concepts(), before + parts.length / 3);
        for (int n = 0; n < parts.length; n++) {
            the.due(what + ", made " + n, x.told(before + n / 3, n % 3), parts[n]);
        }
        the.due(what + ", again", x.concept(7, 2, b), answer);
        the.due(what + ", none came", x.concepts(), before + parts.length / 3);
    }

    private static void allWithoutAtoms() {
        TableauNodes x = names(10);
        checkParts("no room for an atom", x, 5, FULL, new int[] {3, 5, 0});
        the.due("ten atoms", x.atoms(), 10);
        TableauNodes y = names(9);
        checkParts("room for one atom", y, 5, 13, new int[] {3, 5, 0, 6, 2, 11, 7, 2, 5});
        checkParts("room for no more atom", y, 6, FULL, new int[] {3, 6, 0});
        the.due("ten atoms", y.atoms(), 10);
        TableauNodes z = names(9);
        z.concept(3, 5, 0);
        z.concept(6, 2, 11);
        checkParts("the tenth atom is its SOME", z, 5, 13, new int[] {7, 2, 5});
    }

    private static void conceptBad() {
        the.says("Promise 3", "BAD.");
        int[] kinds = {
            Integer.MIN_VALUE, Integer.MIN_VALUE + 3, -7, -3, -1, 0, 1, 2, 8, 9, 35, 67, 259, 65539,
            Integer.MAX_VALUE - 1, Integer.MAX_VALUE
        };
        List<Sentences.Ask> wrongKinds = new ArrayList<>();
        for (int kind : kinds) {
            wrongKinds.add(x -> x.concept(kind, 0, 0));
            wrongKinds.add(x -> x.concept(kind, 1, 1));
        }
        for (Sentences.Calls state : STATES) {
            the.refused("kind", state, BAD, wrongKinds);
        }
        badConcept("NOT", a -> x -> x.concept(3, a, 0));
        for (int n = 4; n <= 5; n++) {
            int kind = n;
            badConcept("a of kind " + kind, a -> x -> x.concept(kind, a, 0));
            badConcept("b of kind " + kind, b -> x -> x.concept(kind, 1, b));
            badConcept("both of kind " + kind, c -> x -> x.concept(kind, c, c));
        }
        for (int n = 6; n <= 7; n++) {
            int kind = n;
            bad("role of kind " + kind, 4, r -> x -> x.concept(kind, r, 1));
            badConcept("b of kind " + kind, b -> x -> x.concept(kind, 3, b));
            badConcept("both of kind " + kind, c -> x -> x.concept(kind, 4, c));
        }
    }

    private static void toldParts() {
        the.says("Promise 4", "Of a concept: its kind (what = 0), its two numbers (1, 2; 0 where it has none).");
        TableauNodes x = new TableauNodes();
        x.class0(9);
        x.concept(3, 2, 7);
        x.concept(4, 3, 2);
        x.concept(5, 2, 4);
        x.concept(6, 3, 5);
        x.concept(7, 1, 6);
        int[][] parts = {
            {0, 0, 0}, {1, 0, 0}, {2, 9, 0}, {3, 2, 0}, {4, 3, 2}, {5, 2, 4}, {6, 3, 5}, {3, 6, 0},
            {6, 1, 7}, {7, 1, 6}
        };
        the.due("concepts", x.concepts(), parts.length);
        for (int c = 0; c < parts.length; c++) {
            for (int what = 0; what < 3; what++) {
                the.due("told(" + c + ", " + what + ")", x.told(c, what), parts[c][what]);
            }
        }
        TableauNodes y = names(1);
        y.concept(3, 0, 9);
        y.concept(4, 0, 0);
        y.concept(6, 0, 0);
        for (int c = 2; c < 6; c++) {
            the.due("zeros are numbers too", y.told(c, 1) + y.told(c, 2), 0);
        }
        the.due("the last one of 80", filledTo(80).told(79, 1), 78);
    }

    private static void toldBad() {
        the.says("Promise 4", "BAD.");
        badConcept("concept", c -> x -> x.told(c, 0));
        badConcept("concept, its first", c -> x -> x.told(c, 1));
        badConcept("concept, its second", c -> x -> x.told(c, 2));
        bad("what", 3, what -> x -> x.told(0, what));
        bad("what, of NOTHING", 3, what -> x -> x.told(1, what));
        badConcept("both", c -> x -> x.told(c, 3));
    }

    private static void howManyConcepts() {
        the.says("Promise 5", "How many concepts there are.");
        for (int count = 3; count <= 80; count++) {
            the.due("concepts", filledTo(count).concepts(), count);
        }
        the.due("none but two", new TableauNodes().concepts(), 2);
        TableauNodes x = filledTo(80);
        x.concept(3, 79, 0);
        x.class0(1);
        the.due("past 80", x.concepts(), 80);
        TableauNodes y = names(1);
        y.class0(0);
        y.class0(10);
        y.concept(9, 0, 0);
        y.axiom(2, 0);
        y.drop();
        y.individual(0, 2);
        y.forget();
        the.due("nothing else makes or takes one", y.concepts(), 3);
    }

    private static void howManyAtoms() {
        the.says("Promise 6", "How many atoms there are.");
        for (int count = 0; count <= 10; count++) {
            int most = count;
            the.due("names", names(count).atoms(), count);
            the.due("SOMEs", Sentences.made(x -> States.makeSomes(x, most)).atoms(), count);
        }
        TableauNodes x = names(10);
        x.concept(6, 0, 0);
        x.concept(7, 0, 0);
        the.due("past 10", x.atoms(), 10);
        TableauNodes y = names(1);
        y.concept(3, 2, 0);
        y.concept(4, 2, 2);
        y.concept(5, 2, 2);
        the.due("NOT, AND, OR are none", y.atoms(), 1);
        y.concept(7, 0, 2);
        the.due("ALL comes with one", y.atoms(), 2);
        y.concept(6, 0, 3);
        the.due("that one again", y.atoms(), 2);
        y.axiom(2, 1);
        y.types();
        the.due("atoms stay", y.atoms(), 2);
    }

    private static void axiomNumbers() {
        the.says("Promise 7", "Each a is a b: the axiom's number, from 0.");
        TableauNodes x = new TableauNodes();
        for (int n = 0; n < 30; n++) {
            the.due("axiom", x.axiom(n % 2, 0), n);
        }
        TableauNodes y = names(2);
        the.due("first", y.axiom(2, 3), 0);
        the.due("the same again has its own number", y.axiom(2, 3), 1);
        y.drop();
        the.due("one of them is left", y.below(2, 3), 1);
        y.drop();
        the.due("none of them is left", y.below(2, 3), 0);
        the.due("the number again", y.axiom(3, 2), 0);
        TableauNodes z = filledTo(80);
        the.due("of the last concept", z.axiom(79, 79), 0);
        the.due("of the last concept and NOTHING", z.axiom(79, 1), 1);
        the.due("it holds", z.can(79), 0);
        the.due("it leaves the others", z.can(78), 1);
    }

    private static void axiomBadFull() {
        the.says("Promise 7", "BAD; FULL.");
        badConcept("a", a -> x -> x.axiom(a, 0));
        badConcept("b", b -> x -> x.axiom(0, b));
        badConcept("both", c -> x -> x.axiom(c, c));
        the.refused("31st", States.ALL_FULL, FULL,
                List.of(x -> x.axiom(0, 1), x -> x.axiom(0, 0), x -> x.axiom(79, 79), x -> x.axiom(79, 1)));
        TableauNodes x = Sentences.made(States.ALL_FULL);
        the.due("one goes", x.drop(), 29);
        the.due("room for one", x.axiom(0, 1), 29);
        the.due("it counts", x.types(), 0);
        the.due("room for none", x.axiom(0, 1), FULL);
    }

    private static void dropCounts() {
        the.says("Promise 8", "The latest axiom goes: how many are left; NO when there is none.");
        TableauNodes x = names(5);
        for (int n = 0; n < 30; n++) {
            x.axiom(n < 25 ? 1 : 0, n < 25 ? 0 : n - 23);
        }
        int[] types = {1, 2, 4, 8, 16, 32};
        for (int n = 0; n < 30; n++) {
            the.due("types", x.types(), types[Math.min(n, 5)]);
            the.due("drop", x.drop(), 29 - n);
        }
        the.due("types", x.types(), 32);
        the.refused("none", States.EMPTY, NO, List.of(y -> y.drop(), y -> y.drop()));
        the.refused("none, but concepts", States.FULL_OF_CONCEPTS, NO, List.of(y -> y.drop(), y -> y.drop()));
        TableauNodes y = names(2);
        y.axiom(2, 3);
        y.axiom(3, 2);
        y.drop();
        the.due("the first one stays", y.below(2, 3), 1);
        the.due("the latest one goes", y.below(3, 2), 0);
        the.due("the first one goes", y.drop(), 0);
        the.due("none", y.drop(), NO);
        the.due("none again", y.drop(), NO);
        the.due("from 0 again", y.axiom(0, 1), 0);
        the.due("it counts", y.types(), 0);
    }

    private static void roleSaid() {
        the.says("Promise 9", "Each r is an s: 1; 0 when that was said.");
        TableauNodes x = new TableauNodes();
        for (int n = 0; n < 16; n++) {
            int r = n / 4;
            int s = n % 4;
            the.due("role(" + r + ", " + s + ")", x.role(r, s), 1);
            the.due("again", x.role(r, s), 0);
            the.due("and again", x.role(r, s), 0);
            the.due("the other way", new TableauNodes().role(s, r), 1);
        }
        for (int n = 0; n < 16; n++) {
            the.due("all were said", x.role(n / 4, n % 4), 0);
        }
        TableauNodes y = new TableauNodes();
        y.role(0, 1);
        y.role(1, 2);
        the.due("it follows, but was not said", y.role(0, 2), 1);
        the.due("now it was", y.role(0, 2), 0);
        the.due("each role is itself, but that was not said", y.role(3, 3), 1);
        y.forget();
        y.drop();
        the.due("what is said of roles stays", y.role(0, 1), 0);
    }

    private static void roleBad() {
        the.says("Promise 9", "BAD.");
        bad("r", 4, r -> x -> x.role(r, 0));
        bad("s", 4, s -> x -> x.role(3, s));
        bad("both", 4, r -> x -> x.role(r, r));
    }

    private static void canBe() {
        the.says("Promise 10", "Whether something can be a concept: by some good type it holds: 1 or 0; BAD.");
        badConcept("can", c -> x -> x.can(c));
        for (Sentences.Calls state : STATES) {
            TableauNodes x = Sentences.made(state);
            int last = x.can(x.concepts() - 1);
            the.due("the last concept is no BAD", last == 0 || last == 1 ? 1 : 0, 1);
            the.due("THING", x.can(0), 1);
            the.due("NOTHING", x.can(1), 0);
        }
        TableauNodes x = names(10);
        int all = 0;
        for (int k = 0; k < 10; k++) {
            all = x.concept(4, all, 2 + k);
        }
        the.due("by the last type alone", x.can(all), 1);
        x.axiom(11, 1);
        the.due("by no good type", x.can(all), 0);
        x.drop();
        int some = 2;
        for (int k = 1; k < 10; k++) {
            some = x.concept(5, some, 2 + k);
        }
        int none = x.concept(3, some, 0);
        the.due("by the first type alone", x.can(none), 1);
        x.axiom(0, 11);
        the.due("by no good type", x.can(none), 0);
        x.axiom(0, 1);
        the.due("no good type at all", x.can(0), 0);
        TableauNodes y = names(1);
        y.axiom(2, y.concept(6, 0, 1));
        the.due("by types that go", y.can(2), 0);
    }

    private static void isBelow() {
        the.says("Promise 11", "Whether each a is a b: by all good types b holds or a does not: 1 or 0; BAD.");
        badConcept("a", a -> x -> x.below(a, 0));
        badConcept("b", b -> x -> x.below(1, b));
        badConcept("both", c -> x -> x.below(c, c));
        for (Sentences.Calls state : STATES) {
            TableauNodes x = Sentences.made(state);
            int last = x.concepts() - 1;
            the.due("the last one, itself", x.below(last, last), 1);
            the.due("the last one, THING", x.below(last, 0), 1);
            the.due("NOTHING, the last one", x.below(1, last), 1);
            the.due("THING, NOTHING", x.below(0, 1), 0);
        }
        TableauNodes x = names(10);
        int all = 0;
        for (int k = 0; k < 9; k++) {
            all = x.concept(4, all, 2 + k);
        }
        the.due("but for the last type", x.below(all, 11), 0);
        x.axiom(all, 11);
        the.due("by all good types", x.below(all, 11), 1);
        x.drop();
        x.axiom(0, 1);
        the.due("no good type: anything is below anything", x.below(0, 1), 1);
        TableauNodes y = names(1);
        y.axiom(2, y.concept(6, 0, 1));
        the.due("types that go don't count", y.below(2, 1), 1);
    }

    private static void howManyTypes() {
        the.says("Promise 12", "How many good types there are.");
        for (int atoms = 0; atoms <= 10; atoms++) {
            TableauNodes x = names(atoms);
            the.due("all", x.types(), 1 << atoms);
            x.axiom(0, 1);
            the.due("none", x.types(), 0);
            x.drop();
            the.due("all again", x.types(), 1 << atoms);
            if (atoms > 0) {
                x.axiom(0, 1 + atoms);
                the.due("half of them", x.types(), 1 << atoms - 1);
            }
        }
        TableauNodes y = new TableauNodes();
        y.concept(6, 0, 1);
        the.due("those that go don't count", y.types(), 1);
        y.concept(6, 0, 0);
        the.due("of four", y.types(), 2);
    }

    private static void howManyRounds() {
        the.says("Promise 13", "How many rounds there were in which some went.");
        TableauNodes x = new TableauNodes();
        the.due("no atoms", x.rounds(), 0);
        x.concept(6, 0, 0);
        the.due("none goes", x.rounds(), 0);
        x.concept(6, 0, 1);
        the.due("some go, then none", x.rounds(), 1);
        x.axiom(0, 1);
        the.due("none there", x.rounds(), 0);
        x.drop();
        x.axiom(0, 3);
        the.due("all go", x.rounds(), 1);
        the.due("none left", x.types(), 0);
        for (int length = 1; length <= 10; length++) {
            TableauNodes y = new TableauNodes();
            int inside = 1;
            for (int k = 0; k < length; k++) {
                inside = y.concept(6, 0, inside);
            }
            the.due("SOME of SOME of .. NOTHING", y.rounds(), length);
            the.due("one is left", y.types(), 1);
        }
    }

    /**
     * Atom k is SOME of atom k - 1, the first one SOME of NOTHING: a type sees just those whose atoms
     * stand one place below some of its own, so it goes a round after them, by its lowest atom.
     */
    private static void depths() {
        the.says("Promise 14", "The round (from 1) in which a type goes; 0 when it is good, NO when it was not "
                + "there at first;");
        TableauNodes x = new TableauNodes();
        int inside = 1;
        for (int k = 0; k < 10; k++) {
            inside = x.concept(6, 0, inside);
        }
        for (int type = 0; type < 256; type++) {
            int round = type == 0 ? 0 : 1 + Integer.numberOfTrailingZeros(type);
            the.due("depth(" + type + ")", x.depth(type), round);
        }
        the.due("the last atom alone", x.depth(512), 10);
        the.due("the last type", x.depth(1023), 1);
        x.axiom(11, 1);
        the.due("not there at first", x.depth(512), NO);
        the.due("not there at first, though it would go", x.depth(1023), NO);
        the.due("the last one that is there", x.depth(511), 1);
        the.due("good", x.depth(0), 0);
        x.axiom(0, 1);
        the.due("none there", x.depth(0), NO);
        the.due("none there", x.depth(1), NO);
    }

    private static void depthBad() {
        the.says("Promise 14", "BAD when it is no type.");
        for (Sentences.Calls state : STATES) {
            int types = 1 << Sentences.made(state).atoms();
            the.refused("depth", state, BAD, calls(types, type -> x -> x.depth(type)));
            int last = Sentences.made(state).depth(types - 1);
            the.due("the last type is one", last == BAD ? 0 : 1, 1);
        }
        TableauNodes x = new TableauNodes();
        for (int atoms = 0; atoms < 10; atoms++) {
            the.due("not yet a type", x.depth(1 << atoms), BAD);
            x.class0(atoms);
            the.due("now a type", x.depth(1 << atoms), 0);
            the.due("the last one", x.depth((2 << atoms) - 1), 0);
            the.due("past it", x.depth(2 << atoms), BAD);
        }
        x.axiom(0, 1);
        the.due("no type, though none is there", x.depth(1024), BAD);
        the.due("no type, though none is there", x.depth(-1), BAD);
    }

    private static void individualCounts() {
        the.says("Promise 15", "Thing i is a concept: how many such were said.");
        TableauNodes x = names(1);
        for (int n = 1; n <= 40; n++) {
            the.due("individual", x.individual(n % 5, n == 40 ? 2 : 0), n);
        }
        the.due("the 40th counts", x.model(0), 1);
        TableauNodes y = names(1);
        the.due("first", y.individual(4, 2), 1);
        the.due("has is counted apart", y.has(4, 0, 4), 1);
        the.due("the same again is another one", y.individual(4, 2), 2);
        the.due("a clash is counted too", y.individual(4, 1), 3);
        the.due("and clashes", y.run(), 0);
        TableauNodes z = filledTo(80);
        the.due("the last concept", z.individual(0, 79), 1);
        the.due("of 77 NOTs", z.model(0), 0);
        the.due("the last but one", z.individual(1, 78), 2);
        the.due("of 76 NOTs", z.model(1), 1);
    }

    private static void individualBadFull() {
        the.says("Promise 15", "BAD; FULL.");
        bad("i", 5, i -> x -> x.individual(i, 0));
        bad("i, of NOTHING", 5, i -> x -> x.individual(i, 1));
        badConcept("concept", c -> x -> x.individual(4, c));
        badConcept("both", c -> x -> x.individual(5, c));
        the.refused("41st", States.ALL_FULL, FULL,
                List.of(x -> x.individual(0, 1), x -> x.individual(4, 79), x -> x.individual(2, 0)));
        TableauNodes x = names(1);
        for (int n = 0; n < 40; n++) {
            x.individual(0, 0);
        }
        the.due("41st", x.individual(4, 1), FULL);
        the.due("it is not said", x.run(), 1);
        the.due("has has room", x.has(0, 0, 0), 1);
        the.due("40 and 1", x.forget(), 41);
        the.due("room again", x.individual(4, 1), 1);
        the.due("it is said", x.run(), 0);
    }

    private static void hasCounts() {
        the.says("Promise 16", "Thing i has thing j by role r: how many such were said.");
        TableauNodes x = new TableauNodes();
        for (int n = 1; n <= 40; n++) {
            the.due("has", x.has(n % 5, n % 4, n * 2 % 5), n);
        }
        for (int n = 0; n < 100; n++) {
            int i = n / 20;
            int r = n / 5 % 4;
            int j = n % 5;
            TableauNodes y = names(1);
            int some = y.concept(6, r, 2);
            int other = y.concept(6, (r + 1) % 4, 2);
            y.individual(j, 2);
            the.due("has(" + i + ", " + r + ", " + j + ")", y.has(i, r, j), 1);
            the.due("that is so", y.surely(i, some), 1);
            the.due("not by another role", y.surely(i, other), 0);
            the.due("not so of another thing", y.surely((i + 1) % 5, some), 0);
            the.due("again", y.has(i, r, j), 2);
            the.due("individual is counted apart", y.individual(i, 0), 2);
            the.due("by the other role too", y.has(i, (r + 1) % 4, j), 3);
            the.due("now that is so", y.surely(i, other), 1);
            the.due("and the first one still", y.surely(i, some), 1);
        }
    }

    private static void hasBadFull() {
        the.says("Promise 16", "BAD; FULL.");
        bad("i", 5, i -> x -> x.has(i, 0, 0));
        bad("r", 4, r -> x -> x.has(0, r, 1));
        bad("j", 5, j -> x -> x.has(4, 3, j));
        bad("all", 5, n -> x -> x.has(n, n, n));
        the.refused("41st", States.ALL_FULL, FULL,
                List.of(x -> x.has(0, 0, 0), x -> x.has(4, 3, 4), x -> x.has(3, 0, 0)));
        TableauNodes x = names(1);
        int some = x.concept(6, 0, 2);
        for (int n = 0; n < 40; n++) {
            x.has(0, 1, 0);
        }
        x.individual(4, 2);
        the.due("41st", x.has(3, 0, 4), FULL);
        the.due("it is not said", x.surely(3, some), 0);
        the.due("individual has room", x.individual(0, 0), 2);
        the.due("40 and 2", x.forget(), 42);
        x.individual(4, 2);
        the.due("room again", x.has(3, 0, 4), 1);
        the.due("it is said", x.surely(3, some), 1);
    }

    private static void forgetCounts() {
        the.says("Promise 17", "Nothing is said of things any more: how many such were said, of both sorts.");
        the.refused("nothing said", States.EMPTY, 0, List.of(x -> x.forget(), x -> x.forget()));
        the.refused("nothing said", States.FULL_OF_ATOMS, 0, List.of(x -> x.forget(), x -> x.forget()));
        the.due("40 and 40", Sentences.made(States.ALL_FULL).forget(), 80);
        the.due("2 and 2", Sentences.made(States.ORDINARY).forget(), 4);
        TableauNodes x = Sentences.made(States.ALL_FULL);
        x.individual(0, 0);
        x.has(0, 0, 0);
        x.individual(5, 0);
        x.has(0, 4, 0);
        the.due("refused ones don't count", x.forget(), 80);
        the.due("again", x.forget(), 0);
        the.due("concepts stay", x.concepts(), 80);
        the.due("axioms stay", x.axiom(0, 0), FULL);
        the.due("role axioms stay", x.role(0, 1), 0);
        for (int i = 0; i < 5; i++) {
            the.due("the least good type", x.model(i), 0);
        }
        for (int n = 1; n <= 40; n++) {
            the.due("room", x.individual(0, 0), n);
            the.due("room", x.has(0, 0, 0), n);
        }
        TableauNodes y = names(1);
        y.individual(0, 1);
        the.due("one of the first sort", y.forget(), 1);
        the.due("a model again", y.run(), 1);
        y.has(0, 0, 0);
        the.due("one of the second sort", y.forget(), 1);
    }

    private static void runAnswers() {
        the.says("Promise 18", "Whether there is a MODEL: 1 or 0.");
        for (Sentences.Calls state : STATES) {
            TableauNodes x = Sentences.made(state);
            the.due("run", x.run(), 1);
            the.due("again", x.run(), 1);
            if (x.individual(4, 1) != FULL) {
                the.due("of NOTHING", x.run(), 0);
                the.due("again", x.run(), 0);
            }
            x.forget();
            the.due("nothing said", x.run(), 1);
            x.drop();
            x.axiom(0, 1);
            the.due("no good type", x.run(), 0);
            x.drop();
            the.due("good types again", x.run(), 1);
        }
        ring(4, 1);
        ring(5, 0);
    }

    /** Things in a ring, each one A or not, and another one than its neighbours: a ring of five can't be. */
    private static void ring(int length, int answer) {
        TableauNodes x = names(1);
        int not = x.concept(3, 2, 0);
        int one = x.concept(4, 2, x.concept(7, 3, not));
        int other = x.concept(4, not, x.concept(7, 3, 2));
        int either = x.concept(5, one, other);
        for (int i = 0; i < length; i++) {
            x.individual(i, either);
            the.due("not yet closed", x.run(), 1);
            x.has(i, 3, (i + 1) % length);
        }
        the.due("a ring of " + length, x.run(), answer);
    }

    private static void modelAnswers() {
        the.says("Promise 19", "The type of thing i in THE MODEL; NO when there is none; BAD.");
        bad("model", 5, i -> x -> x.model(i));
        for (Sentences.Calls state : STATES) {
            TableauNodes x = Sentences.made(state);
            x.forget();
            for (int i = 0; i < 5; i++) {
                the.due("nothing said", x.model(i), 0);
            }
            x.individual(2, 1);
            for (int i = 0; i < 5; i++) {
                the.due("none", x.model(i), NO);
            }
            for (int i : States.outside(5)) {
                the.due("none, and no thing", x.model(i), BAD);
            }
            x.forget();
            the.due("one again", x.model(4), 0);
        }
        TableauNodes y = names(10);
        for (int k = 0; k < 10; k++) {
            y.individual(4, 2 + k);
            y.individual(3, 11 - k);
            the.due("from below", y.model(4), (2 << k) - 1);
            the.due("from above", y.model(3), 1024 - (512 >> k));
        }
        the.due("the last type", y.model(4), 1023);
        the.due("the first type", y.model(0), 0);
    }

    private static void surelyAnswers() {
        the.says("Promise 20", "Whether thing i is a concept in all MODELS: 1 or 0 (1 when there is none); BAD.");
        bad("i", 5, i -> x -> x.surely(i, 0));
        badConcept("concept", c -> x -> x.surely(4, c));
        badConcept("both", c -> x -> x.surely(-1, c));
        for (Sentences.Calls state : STATES) {
            TableauNodes x = Sentences.made(state);
            int last = x.concepts() - 1;
            for (int i = 0; i < 5; i++) {
                the.due("THING", x.surely(i, 0), 1);
                the.due("NOTHING", x.surely(i, 1), 0);
                int answer = x.surely(i, last);
                the.due("the last one is no BAD", answer == 0 || answer == 1 ? 1 : 0, 1);
            }
            x.forget();
            x.individual(0, 1);
            for (int i = 0; i < 5; i++) {
                the.due("no model, NOTHING", x.surely(i, 1), 1);
                the.due("no model, the last one", x.surely(i, last), 1);
            }
            the.due("no model, and no thing", x.surely(5, 0), BAD);
            the.due("no model, and no thing", x.surely(-1, 0), BAD);
            the.due("no model, and no concept", x.surely(0, last + 1), BAD);
            the.due("no model, and no concept", x.surely(0, -1), BAD);
            x.forget();
            the.due("models again", x.surely(0, 1), 0);
        }
        surelyInAll();
    }

    /** It is not enough that THE MODEL has it; and what it lacks need not be lacking in others. */
    private static void surelyInAll() {
        TableauNodes x = names(1);
        int not = x.concept(3, 2, 0);
        the.due("THE MODEL lacks it", x.surely(0, 2), 0);
        the.due("THE MODEL has it, another one does not", x.surely(0, not), 0);
        x.axiom(0, not);
        the.due("all have it", x.surely(0, not), 1);
        x.axiom(0, 2);
        the.due("no good type, so no model", x.surely(0, 2), 1);
        the.due("no good type, so no model", x.surely(0, 1), 1);
    }
}
