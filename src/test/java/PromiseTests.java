/** For each promise of the document: ordinary inputs, the edges that it names, and wrong inputs. */
public final class PromiseTests {
    private static final int BAD = TableauNodes.BAD;
    private static final int NO = TableauNodes.NO;
    private static final int FULL = TableauNodes.FULL;
    private static final int[] FAR = {-1, -2, -3, -100, Integer.MIN_VALUE, Integer.MAX_VALUE, 1 << 20};

    private static int wrong = 0;
    private static int promise = 0;

    public static void main(String[] args) {
        newObject();
        class0();
        conceptKinds();
        conceptWrong();
        conceptFull();
        conceptAllRoom();
        told();
        counts();
        axiom();
        drop();
        role();
        roleUnder();
        can();
        below();
        types();
        rounds();
        roundsByRoles();
        depth();
        individual();
        has();
        forget();
        run();
        model();
        modelOrder();
        modelOfManyAtoms();
        surely();
        changesAreSeen();
        System.out.println(wrong == 0 ? "all answers are as due" : wrong + " answers are not as due");
        if (wrong != 0) {
            System.exit(1);
        }
    }

    private static void due(String call, int got, int want) {
        if (got != want) {
            wrong++;
            System.out.println("promise " + promise + ": " + call + " answered " + got + ", due is " + want);
        }
    }

    private static void newObject() {
        promise = 1;
        due("BAD", BAD, -1);
        due("NO", NO, -2);
        due("FULL", FULL, -3);
        TableauNodes x = new TableauNodes();
        due("concepts", x.concepts(), 2);
        due("atoms", x.atoms(), 0);
        due("THING", x.told(0, 0), 0);
        due("NOTHING", x.told(1, 0), 1);
        due("types", x.types(), 1);
        due("rounds", x.rounds(), 0);
        due("run", x.run(), 1);
        due("drop", x.drop(), NO);
        due("forget", x.forget(), 0);
        TableauNodes y = new TableauNodes();
        x.class0(3);
        x.axiom(0, 1);
        x.individual(0, 1);
        due("another object's concepts", y.concepts(), 2);
        due("another object's types", y.types(), 1);
        due("another object's forget", y.forget(), 0);
    }

    private static void class0() {
        promise = 2;
        TableauNodes x = new TableauNodes();
        due("first", x.class0(7), 2);
        due("second", x.class0(0), 3);
        due("again", x.class0(7), 2);
        due("told", x.told(2, 1), 7);
        due("10", x.class0(10), BAD);
        for (int k : FAR) {
            due("class0(" + k + ")", x.class0(k), BAD);
        }
        due("concepts", x.concepts(), 4);
        due("atoms", x.atoms(), 2);
        for (int k = 0; k < 8; k++) {
            x.concept(6, k % 4, k / 4);
        }
        due("atoms", x.atoms(), 10);
        due("full of atoms", x.class0(1), FULL);
        due("full, but there", x.class0(0), 3);
        due("full, but BAD", x.class0(10), BAD);

        TableauNodes y = filledTo(80);
        due("full of concepts", y.class0(9), FULL);
        due("full of concepts, but there", y.class0(0), 2);
        due("full of concepts, but BAD", y.class0(-1), BAD);
        TableauNodes z = filledTo(79);
        due("the last concept", z.class0(9), 79);
        due("none after it", z.class0(8), FULL);
    }

    /** An object with NAME 0 and as many concepts as wanted, the rest being NOTs of NOTs of it. */
    private static TableauNodes filledTo(int count) {
        TableauNodes x = new TableauNodes();
        x.class0(0);
        for (int c = 3; c < count; c++) {
            due("filling", x.concept(3, c - 1, 0), c);
        }
        return x;
    }

    private static void conceptKinds() {
        promise = 3;
        TableauNodes x = new TableauNodes();
        x.class0(0);
        x.class0(1);
        due("NOT", x.concept(3, 2, 77), 4);
        due("NOT again, another b", x.concept(3, 2, -5), 4);
        due("AND", x.concept(4, 2, 3), 5);
        due("AND the other way", x.concept(4, 3, 2), 6);
        due("AND again", x.concept(4, 2, 3), 5);
        due("OR", x.concept(5, 2, 3), 7);
        due("OR of one", x.concept(5, 2, 2), 8);
        due("SOME", x.concept(6, 3, 2), 9);
        due("SOME by another role", x.concept(6, 0, 2), 10);
        due("SOME again", x.concept(6, 3, 2), 9);
        due("atoms", x.atoms(), 4);
        due("ALL, NOT being there", x.concept(7, 1, 2), 12);
        due("its SOME", x.concept(6, 1, 4), 11);
        due("ALL, both not being there", x.concept(7, 1, 3), 15);
        due("its NOT", x.concept(3, 3, 0), 13);
        due("its SOME", x.concept(6, 1, 13), 14);
        due("ALL again", x.concept(7, 1, 3), 15);
        x.concept(6, 2, 4);
        due("ALL, both being there", x.concept(7, 2, 2), 17);
        due("NOT NOT", x.concept(3, 4, 0), 18);
        due("NOT THING", x.concept(3, 0, 0), 19);
        due("atoms", x.atoms(), 7);
    }

    private static void conceptWrong() {
        promise = 3;
        TableauNodes x = new TableauNodes();
        x.class0(0);
        for (int kind : new int[] {0, 1, 2, 8, 9, -1, Integer.MIN_VALUE, Integer.MAX_VALUE}) {
            due("kind " + kind, x.concept(kind, 0, 0), BAD);
        }
        for (int far : new int[] {3, 80, 81, -1, Integer.MIN_VALUE, Integer.MAX_VALUE}) {
            due("NOT " + far, x.concept(3, far, 0), BAD);
            for (int kind = 4; kind <= 7; kind++) {
                due("kind " + kind + " of b " + far, x.concept(kind, 0, far), BAD);
            }
            due("AND of a " + far, x.concept(4, far, 0), BAD);
            due("OR of a " + far, x.concept(5, far, 0), BAD);
        }
        for (int r : new int[] {4, 5, -1, Integer.MIN_VALUE, Integer.MAX_VALUE}) {
            due("SOME of role " + r, x.concept(6, r, 0), BAD);
            due("ALL of role " + r, x.concept(7, r, 0), BAD);
        }
        due("concepts", x.concepts(), 3);
        due("atoms", x.atoms(), 1);
    }

    private static void conceptFull() {
        promise = 3;
        TableauNodes x = filledTo(80);
        due("NOT", x.concept(3, 79, 0), FULL);
        due("AND", x.concept(4, 2, 2), FULL);
        due("OR", x.concept(5, 2, 2), FULL);
        due("SOME", x.concept(6, 0, 2), FULL);
        due("ALL, NOT being there", x.concept(7, 0, 2), FULL);
        due("ALL, NOT not being there", x.concept(7, 0, 79), FULL);
        due("NOT that is there", x.concept(3, 2, 0), 3);
        due("BAD all the same", x.concept(4, 80, 2), BAD);
        due("concepts", x.concepts(), 80);
        due("atoms", x.atoms(), 1);

        TableauNodes y = new TableauNodes();
        for (int k = 0; k < 9; k++) {
            y.concept(6, k % 4, k / 4);
        }
        due("atoms", y.atoms(), 9);
        due("the tenth atom", y.class0(0), 11);
        due("SOME past ten atoms", y.concept(6, 3, 2), FULL);
        due("SOME that is there", y.concept(6, 0, 0), 2);
        due("AND is no atom", y.concept(4, 2, 3), 12);
    }

    private static void conceptAllRoom() {
        promise = 3;
        TableauNodes none = filledTo(77);
        due("room for three", none.concept(7, 0, 76), 79);
        due("concepts", none.concepts(), 80);
        due("there when full", none.concept(7, 0, 76), 79);

        TableauNodes two = filledTo(78);
        due("room for two", two.concept(7, 0, 77), FULL);
        due("NOT is made", two.told(78, 0), 3);
        due("SOME is made", two.told(79, 0), 6);
        due("SOME of the NOT", two.told(79, 2), 78);
        due("atoms", two.atoms(), 2);

        TableauNodes one = filledTo(79);
        due("room for one", one.concept(7, 0, 78), FULL);
        due("NOT is made", one.told(79, 0), 3);
        due("atoms", one.atoms(), 1);

        TableauNodes known = filledTo(79);
        due("room for one, NOT being there", known.concept(7, 0, 2), FULL);
        due("SOME is made", known.told(79, 0), 6);
        due("SOME of the NOT", known.told(79, 2), 3);

        TableauNodes last = filledTo(78);
        last.concept(6, 2, 3);
        due("room for itself alone", last.concept(7, 2, 2), 79);

        TableauNodes x = new TableauNodes();
        for (int k = 0; k < 10; k++) {
            x.class0(k);
        }
        due("no room for an atom", x.concept(7, 0, 4), FULL);
        due("NOT is made, ALL is not", x.concepts(), 13);
        due("NOT is made", x.told(12, 0), 3);
        due("nothing more to make", x.concept(7, 0, 4), FULL);
        due("nothing more is made", x.concepts(), 13);
    }

    private static void told() {
        promise = 4;
        TableauNodes x = new TableauNodes();
        x.class0(8);
        x.concept(3, 2, 9);
        x.concept(4, 2, 3);
        x.concept(5, 3, 2);
        x.concept(6, 3, 5);
        x.concept(7, 2, 5);
        int[][] due = {
            {0, 0, 0}, {1, 0, 0}, {2, 8, 0}, {3, 2, 0}, {4, 2, 3}, {5, 3, 2}, {6, 3, 5},
            {3, 5, 0}, {6, 2, 7}, {7, 2, 5}
        };
        due("concepts", x.concepts(), due.length);
        for (int c = 0; c < due.length; c++) {
            for (int what = 0; what < 3; what++) {
                due("told(" + c + ", " + what + ")", x.told(c, what), due[c][what]);
            }
            due("told(" + c + ", 3)", x.told(c, 3), BAD);
            due("told(" + c + ", -1)", x.told(c, -1), BAD);
        }
        due("past the last", x.told(due.length, 0), BAD);
        for (int far : FAR) {
            due("told(" + far + ", 0)", x.told(far, 0), BAD);
            due("told(0, " + far + ")", x.told(0, far), BAD);
        }
    }

    private static void counts() {
        TableauNodes x = new TableauNodes();
        int[] concepts = {3, 4, 5, 6, 7, 9, 9, 9};
        int[] atoms = {1, 1, 1, 1, 2, 3, 3, 3};
        for (int n = 0; n < 8; n++) {
            switch (n) {
                case 0: x.class0(0); break;
                case 1: x.concept(3, 2, 0); break;
                case 2: x.concept(4, 2, 3); break;
                case 3: x.concept(5, 2, 3); break;
                case 4: x.concept(6, 0, 2); break;
                case 5: x.concept(7, 0, 2); break;
                case 6: x.class0(0); break;
                default: x.concept(9, 0, 0); break;
            }
            promise = 5;
            due("concepts after " + n, x.concepts(), concepts[n]);
            promise = 6;
            due("atoms after " + n, x.atoms(), atoms[n]);
        }
    }

    private static void axiom() {
        promise = 7;
        TableauNodes x = new TableauNodes();
        x.class0(0);
        x.class0(1);
        due("first", x.axiom(2, 3), 0);
        due("holds", x.below(2, 3), 1);
        due("not the other way", x.below(3, 2), 0);
        due("the same again", x.axiom(2, 3), 1);
        for (int far : new int[] {4, 80, -1, Integer.MIN_VALUE, Integer.MAX_VALUE}) {
            due("axiom(" + far + ", 0)", x.axiom(far, 0), BAD);
            due("axiom(0, " + far + ")", x.axiom(0, far), BAD);
        }
        for (int n = 2; n < 30; n++) {
            due("axiom " + n, x.axiom(1, 0), n);
        }
        due("past thirty", x.axiom(0, 1), FULL);
        due("past thirty, BAD", x.axiom(0, 4), BAD);
        due("was not taken", x.types(), 3);
        x.drop();
        due("after a drop", x.axiom(0, 2), 29);
        due("was taken", x.types(), 1);
    }

    private static void drop() {
        promise = 8;
        TableauNodes x = new TableauNodes();
        due("none", x.drop(), NO);
        x.class0(0);
        x.class0(1);
        x.axiom(2, 3);
        x.axiom(3, 1);
        x.axiom(0, 2);
        due("types", x.types(), 0);
        due("left", x.drop(), 2);
        due("types", x.types(), 1);
        due("left", x.drop(), 1);
        due("types", x.types(), 3);
        due("left", x.drop(), 0);
        due("types", x.types(), 4);
        due("none left", x.drop(), NO);
        due("none left", x.drop(), NO);
        due("number after that", x.axiom(2, 3), 0);
    }

    private static void role() {
        promise = 9;
        TableauNodes x = new TableauNodes();
        due("first", x.role(0, 1), 1);
        due("again", x.role(0, 1), 0);
        due("the other way", x.role(1, 0), 1);
        due("of itself", x.role(2, 2), 1);
        due("of itself again", x.role(2, 2), 0);
        due("third", x.role(1, 2), 1);
        due("follows, but was not said", x.role(0, 2), 1);
        due("last ones", x.role(3, 3), 1);
        for (int far : new int[] {4, 5, 31, 32, 64, -1, Integer.MIN_VALUE, Integer.MAX_VALUE}) {
            due("role(" + far + ", 0)", x.role(far, 0), BAD);
            due("role(0, " + far + ")", x.role(0, far), BAD);
        }
    }

    /** By each two roles r, s: SOME r A is below SOME s A just when r is under s. */
    private static void roleUnder() {
        promise = 9;
        TableauNodes x = new TableauNodes();
        x.class0(0);
        for (int r = 0; r < 4; r++) {
            x.concept(6, r, 2);
        }
        int[] above = {1, 2, 4, 8};
        checkUnder(x, above);
        x.role(3, 2);
        checkUnder(x, new int[] {1, 2, 4, 12});
        x.role(1, 3);
        checkUnder(x, new int[] {1, 14, 4, 12});
        x.role(2, 2);
        checkUnder(x, new int[] {1, 14, 4, 12});
        x.role(2, 0);
        checkUnder(x, new int[] {1, 15, 5, 13});
        x.role(0, 3);
        checkUnder(x, new int[] {13, 15, 13, 13});
    }

    private static void checkUnder(TableauNodes x, int[] above) {
        for (int r = 0; r < 4; r++) {
            for (int s = 0; s < 4; s++) {
                due("role " + r + " under " + s, x.below(3 + r, 3 + s), above[r] >> s & 1);
            }
        }
    }

    private static void can() {
        promise = 10;
        TableauNodes x = new TableauNodes();
        due("THING", x.can(0), 1);
        due("NOTHING", x.can(1), 0);
        due("not there", x.can(2), BAD);
        for (int far : FAR) {
            due("can(" + far + ")", x.can(far), BAD);
        }
        x.class0(0);
        x.concept(3, 2, 0);
        x.concept(4, 2, 3);
        x.concept(5, 2, 3);
        x.concept(6, 0, 1);
        x.concept(6, 0, 2);
        x.concept(7, 0, 2);
        int both = x.concept(4, 7, x.concept(7, 0, 3));
        due("A", x.can(2), 1);
        due("NOT A", x.can(3), 1);
        due("A AND NOT A", x.can(4), 0);
        due("A OR NOT A", x.can(5), 1);
        due("SOME r NOTHING", x.can(6), 0);
        due("SOME r A", x.can(7), 1);
        due("SOME r A AND ALL r NOT A", x.can(both), 0);
        x.axiom(2, 1);
        due("A when none is", x.can(2), 0);
        due("SOME r A when none is", x.can(7), 0);
        due("NOT A", x.can(3), 1);
        x.axiom(0, 2);
        due("THING when no type is good", x.can(0), 0);
    }

    private static void below() {
        promise = 11;
        TableauNodes x = new TableauNodes();
        int a = x.class0(0);
        int b = x.class0(1);
        int and = x.concept(4, a, b);
        int or = x.concept(5, a, b);
        due("A AND B, A", x.below(and, a), 1);
        due("A, A AND B", x.below(a, and), 0);
        due("A, A OR B", x.below(a, or), 1);
        due("A OR B, A", x.below(or, a), 0);
        due("A, A", x.below(a, a), 1);
        due("NOTHING, A", x.below(1, a), 1);
        due("A, THING", x.below(a, 0), 1);
        due("THING, NOTHING", x.below(0, 1), 0);
        int someAnd = x.concept(6, 0, and);
        int someA = x.concept(6, 0, a);
        int allA = x.concept(7, 0, a);
        due("SOME r (A AND B), SOME r A", x.below(someAnd, someA), 1);
        due("SOME r A, SOME r (A AND B)", x.below(someA, someAnd), 0);
        due("ALL r A, SOME r A", x.below(allA, someA), 0);
        int someB = x.concept(6, 0, b);
        due("ALL r A AND SOME r B, SOME r (A AND B)", x.below(x.concept(4, allA, someB), someAnd), 1);
        x.axiom(a, b);
        due("SOME r A, SOME r B by an axiom", x.below(someA, someB), 1);
        due("SOME r A, SOME r (A AND B) by an axiom", x.below(someA, someAnd), 1);
        int[] far = {x.concepts(), 80, -1, Integer.MIN_VALUE, Integer.MAX_VALUE};
        for (int c : far) {
            due("below(" + c + ", 0)", x.below(c, 0), BAD);
            due("below(0, " + c + ")", x.below(0, c), BAD);
        }
        x.axiom(0, 1);
        due("THING, NOTHING when no type is good", x.below(0, 1), 1);
    }

    private static void types() {
        promise = 12;
        TableauNodes x = new TableauNodes();
        int[] sums = {1, 2, 4, 8, 16, 32, 64, 128, 256, 512, 1024};
        for (int k = 0; k < 10; k++) {
            due("types of " + k + " names", x.types(), sums[k]);
            x.class0(k);
        }
        due("types of ten names", x.types(), 1024);
        x.axiom(11, 2);
        due("the last name is the first", x.types(), 768);
        x.axiom(10, 1);
        due("no last but one", x.types(), 384);
        x.axiom(0, 11);
        due("all are the last", x.types(), 128);
        x.axiom(0, 1);
        due("nothing at all", x.types(), 0);

        TableauNodes y = new TableauNodes();
        y.concept(6, 0, 1);
        due("SOME r NOTHING", y.types(), 1);
        y.concept(6, 0, 0);
        due("SOME r THING with it", y.types(), 2);
        y.concept(6, 0, 3);
        due("SOME r SOME r THING", y.types(), 3);
        y.axiom(0, 3);
        due("all have some", y.types(), 1);
        due("and that one has all", y.depth(6), 0);
    }

    private static void rounds() {
        promise = 13;
        TableauNodes x = chain(5);
        due("nothing goes", x.rounds(), 0);
        x.axiom(6, 1);
        due("one after the other", x.rounds(), 4);
        due("types", x.types(), 1);
        x.drop();
        due("nothing goes again", x.rounds(), 0);
        TableauNodes y = new TableauNodes();
        y.concept(6, 0, 1);
        due("at once", y.rounds(), 1);
        y.axiom(2, 1);
        due("not there at first", y.rounds(), 0);
        y.axiom(0, 1);
        due("none there at first", y.rounds(), 0);
    }

    /** Names 0 .. length - 1, each being a SOME 0 of the next one: NAME k is concept 2 + k. */
    private static TableauNodes chain(int length) {
        TableauNodes x = new TableauNodes();
        for (int k = 0; k < length; k++) {
            x.class0(k);
        }
        for (int k = 0; k + 1 < length; k++) {
            x.axiom(2 + k, x.concept(6, 0, 3 + k));
        }
        return x;
    }

    /** A role that is under another one lets types go that would stay without it. */
    private static void roundsByRoles() {
        promise = 13;
        TableauNodes x = new TableauNodes();
        int a = x.class0(0);
        int some = x.concept(6, 0, a);
        int all = x.concept(7, 1, x.concept(3, a, 0));
        x.axiom(0, all);
        due("before", x.rounds(), 0);
        due("can before", x.can(some), 1);
        x.role(1, 0);
        due("the wrong way", x.rounds(), 0);
        due("can, the wrong way", x.can(some), 1);
        x.role(0, 1);
        due("after", x.rounds(), 1);
        due("can after", x.can(some), 0);
    }

    private static void depth() {
        promise = 14;
        TableauNodes x = new TableauNodes();
        due("the one type", x.depth(0), 0);
        due("no other", x.depth(1), BAD);
        x = chain(4);
        x.axiom(5, 1);
        due("good", x.depth(0), 0);
        due("SOME of the last", x.depth(1 << 6), 1);
        due("SOME of the last but one", x.depth(1 << 5), 2);
        due("SOME of the last but two", x.depth(1 << 4), 3);
        due("the first name", x.depth(1 | 1 << 4), 3);
        due("two SOMEs go with the earlier", x.depth(1 << 4 | 1 << 6), 1);
        due("against the first axiom", x.depth(1), NO);
        due("against the last axiom", x.depth(8), NO);
        due("the last type", x.depth(127), NO);
        due("past the last type", x.depth(128), BAD);
        for (int far : FAR) {
            due("depth(" + far + ")", x.depth(far), BAD);
        }
        x.class0(9);
        due("one atom more", x.depth(128), 0);
        due("one atom more, going", x.depth(128 + 32), 2);
        TableauNodes y = new TableauNodes();
        for (int k = 0; k < 10; k++) {
            y.class0(k);
        }
        y.axiom(11, 10);
        due("ten atoms", y.depth(1023), 0);
        due("ten atoms", y.depth(512), NO);
        due("ten atoms", y.depth(1024), BAD);
    }

    private static void individual() {
        promise = 15;
        TableauNodes x = new TableauNodes();
        x.class0(0);
        due("first", x.individual(0, 2), 1);
        due("again", x.individual(0, 2), 2);
        due("last thing", x.individual(4, 1), 3);
        for (int far : new int[] {5, 6, -1, Integer.MIN_VALUE, Integer.MAX_VALUE}) {
            due("individual(" + far + ", 0)", x.individual(far, 0), BAD);
        }
        for (int far : new int[] {3, 80, -1, Integer.MIN_VALUE, Integer.MAX_VALUE}) {
            due("individual(0, " + far + ")", x.individual(0, far), BAD);
        }
        due("has is counted apart", x.has(0, 0, 0), 1);
        for (int n = 4; n <= 40; n++) {
            due("individual " + n, x.individual(n % 5, 0), n);
        }
        due("past forty", x.individual(0, 0), FULL);
        due("past forty, BAD", x.individual(5, 0), BAD);
        due("past forty, BAD", x.individual(0, 3), BAD);
        due("has is counted apart", x.has(0, 0, 0), 2);
        x.forget();
        due("from the start", x.individual(0, 0), 1);

        TableauNodes y = new TableauNodes();
        y.class0(0);
        for (int n = 0; n < 40; n++) {
            y.individual(0, 0);
        }
        due("not taken past forty", y.individual(1, 2), FULL);
        due("not taken past forty", y.model(1), 0);
    }

    private static void has() {
        promise = 16;
        TableauNodes x = new TableauNodes();
        due("first", x.has(0, 0, 1), 1);
        due("again", x.has(0, 0, 1), 2);
        due("itself", x.has(4, 3, 4), 3);
        for (int far : new int[] {5, 6, -1, Integer.MIN_VALUE, Integer.MAX_VALUE}) {
            due("has(" + far + ", 0, 0)", x.has(far, 0, 0), BAD);
            due("has(0, 0, " + far + ")", x.has(0, 0, far), BAD);
        }
        for (int far : new int[] {4, 5, 32, -1, Integer.MIN_VALUE, Integer.MAX_VALUE}) {
            due("has(0, " + far + ", 0)", x.has(0, far, 0), BAD);
        }
        due("individual is counted apart", x.individual(0, 0), 1);
        for (int n = 4; n <= 40; n++) {
            due("has " + n, x.has(n % 5, n % 4, n % 3), n);
        }
        due("past forty", x.has(0, 0, 0), FULL);
        due("past forty, BAD", x.has(0, 4, 0), BAD);
        due("individual is counted apart", x.individual(0, 0), 2);
        x.forget();
        due("from the start", x.has(0, 0, 0), 1);

        TableauNodes y = new TableauNodes();
        int a = y.class0(0);
        int some = y.concept(6, 0, a);
        for (int n = 0; n < 40; n++) {
            y.has(0, 1, 0);
        }
        y.individual(1, a);
        due("not taken past forty", y.has(0, 0, 1), FULL);
        due("not taken past forty", y.surely(0, some), 0);
    }

    private static void forget() {
        promise = 17;
        TableauNodes x = new TableauNodes();
        due("nothing", x.forget(), 0);
        int a = x.class0(0);
        int some = x.concept(6, 0, a);
        int not = x.concept(3, a, 0);
        x.individual(0, a);
        x.individual(1, a);
        x.has(0, 0, 0);
        x.has(2, 0, 1);
        x.has(2, 0, 1);
        due("surely before", x.surely(2, some), 1);
        due("model before", x.model(0), 3);
        due("all", x.forget(), 5);
        due("nothing left", x.forget(), 0);
        due("surely after", x.surely(2, some), 0);
        due("model after", x.model(0), 0);
        x.individual(0, 1);
        due("none", x.run(), 0);
        due("one", x.forget(), 1);
        due("some again", x.run(), 1);
        x.axiom(a, 1);
        x.forget();
        due("axioms stay", x.below(0, not), 1);
    }

    private static void run() {
        promise = 18;
        TableauNodes x = new TableauNodes();
        due("nothing said", x.run(), 1);
        int a = x.class0(0);
        int not = x.concept(3, a, 0);
        int allNot = x.concept(7, 0, not);
        x.individual(0, a);
        due("A", x.run(), 1);
        x.individual(1, allNot);
        due("not linked", x.run(), 1);
        x.has(0, 0, 1);
        due("linked the other way", x.run(), 1);
        x.has(1, 1, 0);
        due("linked by another role", x.run(), 1);
        x.role(2, 0);
        x.has(1, 2, 2);
        due("linked to another thing", x.run(), 1);
        x.has(1, 2, 0);
        due("linked by a role under it", x.run(), 0);
        x.forget();
        x.individual(3, a);
        x.individual(3, allNot);
        due("not linked to itself", x.run(), 1);
        x.has(3, 0, 3);
        due("linked to itself", x.run(), 0);
        x.forget();
        due("nothing said again", x.run(), 1);
        x.axiom(0, 1);
        due("no good types", x.run(), 0);

        due("two sides of a triangle", colours(new int[] {2, 3, 3, 4}), 1);
        due("a triangle has no two colours", colours(new int[] {2, 3, 3, 4, 4, 2}), 0);
        due("nor a ring of five", colours(new int[] {0, 1, 1, 2, 2, 3, 3, 4, 4, 0}), 0);
        due("a ring of four has", colours(new int[] {0, 1, 1, 2, 2, 3, 3, 0}), 1);
        for (int lists = 0; lists < 512; lists++) {
            int[] choices = {lists & 7, lists >> 3 & 7, lists >> 6};
            due("a triangle by the lists " + lists, triangle(choices), haveThreeColours(choices));
        }
    }

    /** Whether things 0, 1 and 2 can take three colours, each one from its list (a bit a colour). */
    private static int triangle(int[] choices) {
        TableauNodes x = new TableauNodes();
        for (int k = 0; k < 3; k++) {
            int name = x.class0(k);
            x.axiom(name, x.concept(3, x.concept(6, 0, name), 0));
        }
        for (int i = 0; i < 3; i++) {
            int list = 1;
            for (int k = 0; k < 3; k++) {
                list = (choices[i] >> k & 1) == 0 ? list : x.concept(5, list, x.class0(k));
            }
            x.individual(i, list);
            x.has(i, 0, (i + 1) % 3);
        }
        return x.run();
    }

    private static int haveThreeColours(int[] choices) {
        for (int n = 0; n < 27; n++) {
            int a = n % 3;
            int b = n / 3 % 3;
            int c = n / 9;
            boolean allowed = (choices[0] >> a & choices[1] >> b & choices[2] >> c & 1) == 1;
            if (allowed && a != b && b != c && c != a) {
                return 1;
            }
        }
        return 0;
    }

    /** Whether the five things can be A or not, no two linked ones alike. */
    private static int colours(int[] links) {
        TableauNodes x = new TableauNodes();
        int a = x.class0(0);
        int not = x.concept(3, a, 0);
        int left = x.concept(4, a, x.concept(7, 0, not));
        int right = x.concept(4, not, x.concept(7, 0, a));
        int either = x.concept(5, left, right);
        for (int i = 0; i < 5; i++) {
            x.individual(i, either);
        }
        for (int n = 0; n < links.length; n += 2) {
            x.has(links[n], 0, links[n + 1]);
        }
        return x.run();
    }

    private static void model() {
        promise = 19;
        TableauNodes x = new TableauNodes();
        due("nothing said", x.model(0), 0);
        for (int far : new int[] {5, 6, -1, Integer.MIN_VALUE, Integer.MAX_VALUE}) {
            due("model(" + far + ")", x.model(far), BAD);
        }
        int a = x.class0(0);
        int b = x.class0(1);
        int or = x.concept(5, a, b);
        int some = x.concept(6, 0, a);
        x.individual(0, or);
        x.individual(1, b);
        x.individual(2, x.concept(4, a, b));
        due("A OR B", x.model(0), 1);
        due("B", x.model(1), 2);
        due("A AND B", x.model(2), 3);
        due("nothing said", x.model(3), 0);
        x.has(3, 0, 0);
        due("has an A OR B", x.model(3), 4);
        due("is one, the least of all", x.model(0), 1);
        x.has(4, 0, 1);
        due("has a B", x.model(4), 0);
        x.axiom(b, some);
        due("B by an axiom", x.model(1), 6);
        x.individual(2, 1);
        for (int i = 0; i < 5; i++) {
            due("none", x.model(i), NO);
        }
        due("none, BAD", x.model(5), BAD);
        due("none, BAD", x.model(-1), BAD);
    }

    /** The first thing's type is made least before the second one's, whatever the second pays. */
    private static void modelOrder() {
        promise = 19;
        TableauNodes x = new TableauNodes();
        int a = x.class0(0);
        int some = x.concept(6, 0, a);
        int not = x.concept(3, some, 0);
        int clash = x.concept(4, a, not);
        int either = x.concept(5, some, clash);
        x.individual(0, x.concept(5, a, some));
        x.individual(1, either);
        x.has(1, 0, 0);
        due("thing 0 is least", x.model(0), 1);
        due("thing 1 follows", x.model(1), 2);
        x.forget();
        x.individual(1, x.concept(5, a, some));
        x.individual(0, either);
        x.has(0, 0, 1);
        due("thing 0 is least again", x.model(0), 1);
        due("thing 1 follows again", x.model(1), 2);
        x.individual(1, a);
        due("the first type will not do", x.model(0), 2);
        due("thing 1", x.model(1), 1);
        x.has(1, 0, 1);
        due("thing 1 has itself", x.model(1), 3);
    }

    /** Nine names ask for types far past the first word of any row. */
    private static void modelOfManyAtoms() {
        promise = 19;
        TableauNodes x = new TableauNodes();
        for (int k = 0; k < 9; k++) {
            x.class0(k);
        }
        int some = x.concept(6, 0, 10);
        int all = 0;
        for (int k = 0; k < 9; k++) {
            all = x.concept(4, all, 2 + k);
        }
        x.individual(4, all);
        x.individual(3, 10);
        x.has(2, 0, 3);
        x.has(1, 0, 4);
        x.individual(1, 9);
        due("nothing said", x.model(0), 0);
        due("SOME and a name", x.model(1), 512 + 128);
        due("SOME", x.model(2), 512);
        due("a name", x.model(3), 256);
        due("all names", x.model(4), 511);
        due("surely SOME", x.surely(2, some), 1);
        due("not surely SOME", x.surely(3, some), 0);
        x.axiom(0, x.concept(3, some, 0));
        due("no SOME", x.run(), 0);
        x.drop();
        x.axiom(some, 8);
        due("SOME asks for more", x.model(2), 512 + 64);
    }

    private static void surely() {
        promise = 20;
        TableauNodes x = new TableauNodes();
        int a = x.class0(0);
        int b = x.class0(1);
        int or = x.concept(5, a, b);
        int some = x.concept(6, 0, a);
        int allB = x.concept(7, 0, b);
        x.individual(0, a);
        due("said", x.surely(0, a), 1);
        due("follows", x.surely(0, or), 1);
        due("not said", x.surely(0, b), 0);
        due("of another thing", x.surely(1, a), 0);
        due("THING", x.surely(3, 0), 1);
        due("NOTHING", x.surely(3, 1), 0);
        x.has(1, 0, 0);
        due("has it", x.surely(1, some), 1);
        due("does not have it", x.surely(2, some), 0);
        x.individual(1, allB);
        due("had by an ALL", x.surely(0, b), 1);
        due("not had by it", x.surely(2, b), 0);
        int notA = x.concept(3, a, 0);
        due("holds in the least model, not in all", x.surely(2, notA), 0);
        due("not in the least model", x.surely(0, notA), 0);
        for (int far : new int[] {5, 6, -1, Integer.MIN_VALUE, Integer.MAX_VALUE}) {
            due("surely(" + far + ", 0)", x.surely(far, 0), BAD);
        }
        for (int far : new int[] {x.concepts(), 80, -1, Integer.MIN_VALUE, Integer.MAX_VALUE}) {
            due("surely(0, " + far + ")", x.surely(0, far), BAD);
        }
        due("the model is as it was", x.model(0), 3);
        x.individual(4, 1);
        due("no model", x.surely(0, notA), 1);
        due("no model", x.surely(2, 1), 1);
        due("no model, BAD", x.surely(5, 1), BAD);
        due("no model, BAD", x.surely(0, 80), BAD);

        TableauNodes y = new TableauNodes();
        int n = y.class0(0);
        int not = y.concept(3, n, 0);
        int someN = y.concept(6, 0, n);
        y.individual(0, y.concept(5, n, y.concept(6, 0, not)));
        y.has(0, 0, 1);
        y.has(1, 0, 2);
        y.individual(2, n);
        y.individual(0, y.concept(3, someN, 0));
        due("by two steps", y.surely(1, not), 1);
        due("by one step", y.surely(1, someN), 1);
    }

    /** Each change is seen by what was asked before it. */
    private static void changesAreSeen() {
        promise = 12;
        TableauNodes x = new TableauNodes();
        due("types", x.types(), 1);
        int a = x.class0(0);
        due("types after a name", x.types(), 2);
        due("model", x.model(0), 0);
        x.axiom(0, a);
        due("model after an axiom", x.model(0), 1);
        due("surely after an axiom", x.surely(4, a), 1);
        int some = x.concept(6, 0, a);
        due("types after a SOME", x.types(), 2);
        due("surely of it", x.surely(0, some), 0);
        x.has(0, 1, 1);
        due("by another role", x.surely(0, some), 0);
        x.role(1, 0);
        due("by a role under it", x.surely(0, some), 1);
        due("model after a role", x.model(0), 3);
        x.drop();
        due("surely after a drop", x.surely(4, a), 0);
        due("model after a drop", x.model(0), 0);
        x.individual(1, a);
        due("model after an individual", x.model(0), 2);
        x.concept(6, 1, a);
        due("model after another SOME", x.model(0), 6);
    }
}
