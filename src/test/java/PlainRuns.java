/**
 * Long runs of calls, each answer held against a plain reading of the document: every concept is
 * looked up anew by its parts, every type is held against every other one, every model is tried.
 */
public final class PlainRuns {
    private static int wrong = 0;
    private static long seed = 1;

    public static void main(String[] args) {
        for (int run = 1; run <= 600; run++) {
            seed = run;
            new Run(run, 2 + run % 4).go(250);
        }
        for (int run = 601; run <= 660; run++) {
            seed = run;
            new Run(run, 6 + run % 5).go(120);
        }
        for (int run = 661; run <= 860; run++) {
            seed = run;
            new Run(run, 0).goByColours(150);
        }
        System.out.println(wrong == 0 ? "all answers are as due" : wrong + " answers are not as due");
        if (wrong != 0) {
            System.exit(1);
        }
    }

    /** The same numbers each time, so that a run that fails can be told by its number. */
    private static int below(int bound) {
        seed = seed * 6364136223846793005L + 1442695040888963407L;
        return (int) ((seed >>> 33) % bound);
    }

    private static final class Run {
        private final int number;
        private final int mostAtoms;
        private final int roles;
        private final TableauNodes asked = new TableauNodes();
        private final Plain plain = new Plain();
        private final StringBuilder calls = new StringBuilder();

        Run(int number, int mostAtoms) {
            this.number = number;
            this.mostAtoms = mostAtoms;
            roles = 1 + number / 4 % 4;
        }

        void go(int most) {
            int makers = 4 + below(30) + 3 * mostAtoms;
            for (int n = 0; n < makers; n++) {
                make();
            }
            for (int n = makers; n < most; n++) {
                step();
            }
        }

        /** Linked things are to differ: here a search often has to take a choice back. */
        void goByColours(int most) {
            int colours = 2 + number % 2;
            for (int k = 0; k < colours; k++) {
                int name = due("class0(" + k + ")", asked.class0(k), plain.class0(k));
                int some = due("concept(6, 0, " + name + ")", asked.concept(6, 0, name), plain.concept(6, 0, name));
                int not = due("concept(3, " + some + ", 0)", asked.concept(3, some, 0), plain.concept(3, some, 0));
                due("axiom(" + name + ", " + not + ")", asked.axiom(name, not), plain.axiom(name, not));
            }
            for (int k = 0; k < colours; k++) {
                int a = 2 + 3 * k;
                int b = 2 + 3 * ((k + 1) % colours);
                due("concept(5, " + a + ", " + b + ")", asked.concept(5, a, b), plain.concept(5, a, b));
            }
            for (int n = 6 * colours; n < most; n++) {
                stepByColours(2 + 3 * colours, colours);
            }
        }

        private void stepByColours(int firstChoice, int colours) {
            int i = below(5);
            int j = below(5);
            int c = firstChoice + below(colours);
            switch (below(16)) {
                case 0: case 1: case 2:
                    due("individual(" + i + ", " + c + ")", asked.individual(i, c), plain.individual(i, c));
                    break;
                case 3: case 4: case 5:
                    if (i != j) {
                        due("has(" + i + ", 0, " + j + ")", asked.has(i, 0, j), plain.has(i, 0, j));
                    }
                    break;
                case 6:
                    if (plain.run() == 0) {
                        due("forget()", asked.forget(), plain.forget());
                    }
                    break;
                case 7: case 8: case 9:
                    due("run()", asked.run(), plain.run());
                    break;
                case 10: case 11: case 12:
                    due("model(" + i + ")", asked.model(i), plain.model(i));
                    break;
                default:
                    c = below(plain.count);
                    due("surely(" + i + ", " + c + ")", asked.surely(i, c), plain.surely(i, c));
                    break;
            }
        }

        private void step() {
            int which = below(100);
            if (which < 8) {
                make();
            } else if (which < 26) {
                say();
            } else {
                ask();
            }
        }

        private int anyConcept() {
            return below(25) == 0 ? below(90) - 5 : below(plain.count);
        }

        private int anyRole() {
            return below(30) == 0 ? below(8) - 2 : below(roles);
        }

        private int anyThing() {
            return below(30) == 0 ? below(9) - 2 : below(5);
        }

        /** Atoms are kept few: the plain reading would take too long with many. */
        private void make() {
            boolean room = plain.atoms.size() < mostAtoms;
            int kind = room ? 2 + below(6) : 3 + below(3);
            if (below(40) == 0) {
                kind = new int[] {-1, 0, 1, 8, 99}[below(5)];
            }
            if (kind == 2) {
                int k = below(12) - 1;
                due("class0(" + k + ")", asked.class0(k), plain.class0(k));
                return;
            }
            int a = kind >= 6 ? anyRole() : anyConcept();
            int b = anyConcept();
            due("concept(" + kind + ", " + a + ", " + b + ")", asked.concept(kind, a, b), plain.concept(kind, a, b));
        }

        private void say() {
            int i = anyThing();
            int j = anyThing();
            int a = anyConcept();
            int b = anyConcept();
            int r = anyRole();
            int s = anyRole();
            switch (below(12)) {
                case 0: case 1: case 2:
                    due("axiom(" + a + ", " + b + ")", asked.axiom(a, b), plain.axiom(a, b));
                    break;
                case 3: case 4:
                    due("drop()", asked.drop(), plain.drop());
                    break;
                case 5:
                    due("role(" + r + ", " + s + ")", asked.role(r, s), plain.role(r, s));
                    break;
                case 6: case 7: case 8:
                    due("individual(" + i + ", " + a + ")", asked.individual(i, a), plain.individual(i, a));
                    break;
                case 9: case 10:
                    due("has(" + i + ", " + r + ", " + j + ")", asked.has(i, r, j), plain.has(i, r, j));
                    break;
                default:
                    if (below(4) == 0) {
                        due("forget()", asked.forget(), plain.forget());
                    }
                    break;
            }
        }

        private void ask() {
            int i = anyThing();
            int a = anyConcept();
            int b = anyConcept();
            switch (below(13)) {
                case 0:
                    due("told(" + a + ", " + (b % 4) + ")", asked.told(a, b % 4), plain.told(a, b % 4));
                    break;
                case 1:
                    due("concepts()", asked.concepts(), plain.count);
                    break;
                case 2:
                    due("atoms()", asked.atoms(), plain.atoms.size());
                    break;
                case 3:
                    due("can(" + a + ")", asked.can(a), plain.can(a));
                    break;
                case 4:
                    due("below(" + a + ", " + b + ")", asked.below(a, b), plain.isBelow(a, b));
                    break;
                case 5:
                    due("types()", asked.types(), plain.types());
                    break;
                case 6:
                    due("rounds()", asked.rounds(), plain.rounds());
                    break;
                case 7: case 8:
                    int t = below((1 << plain.atoms.size()) + 3) - 1;
                    due("depth(" + t + ")", asked.depth(t), plain.depth(t));
                    break;
                case 9:
                    due("run()", asked.run(), plain.run());
                    break;
                case 10:
                    due("model(" + i + ")", asked.model(i), plain.model(i));
                    break;
                default:
                    due("surely(" + i + ", " + a + ")", asked.surely(i, a), plain.surely(i, a));
                    break;
            }
        }

        private int due(String call, int got, int want) {
            calls.append(call).append(" = ").append(want).append('\n');
            if (got != want) {
                wrong++;
                System.out.println("run " + number + ": " + call + " answered " + got + ", due is " + want);
                if (wrong == 1) {
                    System.out.println(calls);
                }
            }
            return want;
        }
    }

    /** The document, word by word. */
    private static final class Plain {
        private static final int BAD = -1;
        private static final int NO = -2;
        private static final int FULL = -3;

        private final int[][] parts = new int[80][];
        private int count = 0;
        private final java.util.List<Integer> atoms = new java.util.ArrayList<>();
        private final java.util.List<int[]> axioms = new java.util.ArrayList<>();
        private final java.util.List<int[]> roleAxioms = new java.util.ArrayList<>();
        private final java.util.List<int[]> said = new java.util.ArrayList<>();
        private final java.util.List<int[]> links = new java.util.ArrayList<>();

        /** By concept and type, by type, by role and two types: null when a change came after. */
        private boolean[][] held = null;
        private int[] depths = null;
        private boolean[][][] seen = null;

        Plain() {
            make(0, 0, 0);
            make(1, 0, 0);
        }

        private boolean isConcept(int c) {
            return c >= 0 && c < count;
        }

        private static boolean isRole(int r) {
            return r >= 0 && r <= 3;
        }

        private static boolean isThing(int i) {
            return i >= 0 && i <= 4;
        }

        private int find(int kind, int a, int b) {
            for (int c = 0; c < count; c++) {
                if (java.util.Arrays.equals(parts[c], new int[] {kind, a, b})) {
                    return c;
                }
            }
            return -1;
        }

        private int make(int kind, int a, int b) {
            if (find(kind, a, b) >= 0) {
                return find(kind, a, b);
            }
            boolean atom = kind == 2 || kind == 6;
            if (count == 80 || atom && atoms.size() == 10) {
                return FULL;
            }
            forgetWork();
            parts[count] = new int[] {kind, a, b};
            if (atom) {
                atoms.add(count);
            }
            return count++;
        }

        int class0(int k) {
            return k < 0 || k > 9 ? BAD : make(2, k, 0);
        }

        int concept(int kind, int a, int b) {
            if (kind == 3) {
                return isConcept(a) ? make(3, a, 0) : BAD;
            }
            if (kind == 4 || kind == 5) {
                return isConcept(a) && isConcept(b) ? make(kind, a, b) : BAD;
            }
            if (kind != 6 && kind != 7 || !isRole(a) || !isConcept(b)) {
                return BAD;
            }
            if (kind == 6 || find(7, a, b) >= 0) {
                return make(kind, a, b);
            }
            int not = make(3, b, 0);
            if (not == FULL || make(6, a, not) == FULL) {
                return FULL;
            }
            return make(7, a, b);
        }

        int told(int c, int what) {
            return isConcept(c) && what >= 0 && what <= 2 ? parts[c][what] : BAD;
        }

        int axiom(int a, int b) {
            if (!isConcept(a) || !isConcept(b)) {
                return BAD;
            }
            if (axioms.size() == 30) {
                return FULL;
            }
            forgetWork();
            axioms.add(new int[] {a, b});
            return axioms.size() - 1;
        }

        int drop() {
            if (axioms.isEmpty()) {
                return NO;
            }
            forgetWork();
            axioms.remove(axioms.size() - 1);
            return axioms.size();
        }

        int role(int r, int s) {
            if (!isRole(r) || !isRole(s)) {
                return BAD;
            }
            for (int[] pair : roleAxioms) {
                if (pair[0] == r && pair[1] == s) {
                    return 0;
                }
            }
            forgetWork();
            roleAxioms.add(new int[] {r, s});
            return 1;
        }

        int individual(int i, int c) {
            if (!isThing(i) || !isConcept(c)) {
                return BAD;
            }
            if (said.size() == 40) {
                return FULL;
            }
            said.add(new int[] {i, c});
            return said.size();
        }

        int has(int i, int r, int j) {
            if (!isThing(i) || !isRole(r) || !isThing(j)) {
                return BAD;
            }
            if (links.size() == 40) {
                return FULL;
            }
            links.add(new int[] {i, r, j});
            return links.size();
        }

        int forget() {
            int sum = said.size() + links.size();
            said.clear();
            links.clear();
            return sum;
        }

        /** A way between roles never needs more steps than there are roles. */
        private boolean under(int r, int s, int steps) {
            if (r == s) {
                return true;
            }
            for (int[] pair : roleAxioms) {
                if (steps > 0 && pair[0] == r && under(pair[1], s, steps - 1)) {
                    return true;
                }
            }
            return false;
        }

        private void forgetWork() {
            held = null;
            depths = null;
            seen = null;
        }

        private boolean holds(int c, int type) {
            if (held == null) {
                boolean[][] all = new boolean[count][1 << atoms.size()];
                for (int d = 0; d < count; d++) {
                    for (int t = 0; t < all[d].length; t++) {
                        all[d][t] = workOut(d, t);
                    }
                }
                held = all;
            }
            return held[c][type];
        }

        private boolean workOut(int c, int type) {
            int[] p = parts[c];
            switch (p[0]) {
                case 0: return true;
                case 1: return false;
                case 3: return !workOut(p[1], type);
                case 4: return workOut(p[1], type) && workOut(p[2], type);
                case 5: return workOut(p[1], type) || workOut(p[2], type);
                case 7: return !workOut(find(6, p[1], find(3, p[2], 0)), type);
                default: return (type >> atoms.indexOf(c) & 1) == 1;
            }
        }

        private boolean sees(int type, int other, int r) {
            for (int atom : atoms) {
                int[] p = parts[atom];
                if (p[0] == 6 && !holds(atom, type) && under(r, p[1], 4) && holds(p[2], other)) {
                    return false;
                }
            }
            return true;
        }

        private boolean goes(int type, int[] depths) {
            for (int atom : atoms) {
                int[] p = parts[atom];
                if (p[0] != 6 || !holds(atom, type)) {
                    continue;
                }
                boolean served = false;
                for (int other = 0; other < depths.length && !served; other++) {
                    served = depths[other] == 0 && holds(p[2], other) && sees(type, other, p[1]);
                }
                if (!served) {
                    return true;
                }
            }
            return false;
        }

        private int[] depths() {
            if (depths == null) {
                depths = workOutDepths();
            }
            return depths;
        }

        private int[] workOutDepths() {
            int[] depths = new int[1 << atoms.size()];
            for (int type = 0; type < depths.length; type++) {
                for (int[] ax : axioms) {
                    if (holds(ax[0], type) && !holds(ax[1], type)) {
                        depths[type] = NO;
                    }
                }
            }
            boolean some = true;
            for (int round = 1; some; round++) {
                some = false;
                int[] before = depths.clone();
                for (int type = 0; type < depths.length; type++) {
                    if (before[type] == 0 && goes(type, before)) {
                        depths[type] = round;
                        some = true;
                    }
                }
            }
            return depths;
        }

        int types() {
            int sum = 0;
            for (int depth : depths()) {
                sum += depth == 0 ? 1 : 0;
            }
            return sum;
        }

        int rounds() {
            int most = 0;
            for (int depth : depths()) {
                most = Math.max(most, depth);
            }
            return most;
        }

        int depth(int type) {
            return type < 0 || type >= 1 << atoms.size() ? BAD : depths()[type];
        }

        int can(int c) {
            if (!isConcept(c)) {
                return BAD;
            }
            int[] depths = depths();
            for (int type = 0; type < depths.length; type++) {
                if (depths[type] == 0 && holds(c, type)) {
                    return 1;
                }
            }
            return 0;
        }

        int isBelow(int a, int b) {
            if (!isConcept(a) || !isConcept(b)) {
                return BAD;
            }
            int[] depths = depths();
            for (int type = 0; type < depths.length; type++) {
                if (depths[type] == 0 && holds(a, type) && !holds(b, type)) {
                    return 0;
                }
            }
            return 1;
        }

        /** The least model in which thing i is not c (no such wish when i is -1); null if none. */
        private int[] least(int i, int c) {
            int[] depths = depths();
            boolean[][] fits = new boolean[5][depths.length];
            for (int thing = 0; thing < 5; thing++) {
                for (int type = 0; type < depths.length; type++) {
                    fits[thing][type] = depths[type] == 0 && !(thing == i && holds(c, type));
                    for (int[] is : said) {
                        fits[thing][type] &= is[0] != thing || holds(is[1], type);
                    }
                }
            }
            if (seen == null) {
                seen = workOutSeen(depths);
            }
            if (!dropUnmatched(fits, seen)) {
                return null;
            }
            int[] types = new int[5];
            return extend(0, types, fits, seen) ? types : null;
        }

        private boolean[][][] workOutSeen(int[] depths) {
            boolean[][][] all = new boolean[4][depths.length][depths.length];
            for (int r = 0; r < 4; r++) {
                for (int type = 0; type < depths.length; type++) {
                    for (int other = 0; other < depths.length; other++) {
                        boolean both = depths[type] == 0 && depths[other] == 0;
                        all[r][type][other] = both && sees(type, other, r);
                    }
                }
            }
            return all;
        }

        /** Takes types away that have no match at one link: else a search could take for ever. */
        private boolean dropUnmatched(boolean[][] fits, boolean[][][] seen) {
            boolean some = true;
            while (some) {
                some = false;
                for (int[] link : links) {
                    for (int type = 0; type < fits[0].length; type++) {
                        boolean from = false;
                        boolean to = false;
                        for (int other = 0; other < fits[0].length; other++) {
                            from |= fits[link[2]][other] && seen[link[1]][type][other];
                            to |= fits[link[0]][other] && seen[link[1]][other][type];
                        }
                        some |= fits[link[0]][type] && !from || fits[link[2]][type] && !to;
                        fits[link[0]][type] &= from;
                        fits[link[2]][type] &= to;
                    }
                }
            }
            for (boolean[] row : fits) {
                boolean any = false;
                for (boolean fit : row) {
                    any |= fit;
                }
                if (!any) {
                    return false;
                }
            }
            return true;
        }

        private boolean extend(int thing, int[] types, boolean[][] fits, boolean[][][] seen) {
            if (thing == 5) {
                return true;
            }
            for (int type = 0; type < fits[thing].length; type++) {
                types[thing] = type;
                if (fits[thing][type] && goesWithEarlier(thing, types, seen) && extend(thing + 1, types, fits, seen)) {
                    return true;
                }
            }
            return false;
        }

        private boolean goesWithEarlier(int thing, int[] types, boolean[][][] seen) {
            for (int[] link : links) {
                boolean now = Math.max(link[0], link[2]) == thing;
                if (now && !seen[link[1]][types[link[0]]][types[link[2]]]) {
                    return false;
                }
            }
            return true;
        }

        int run() {
            return least(-1, 0) == null ? 0 : 1;
        }

        int model(int i) {
            if (!isThing(i)) {
                return BAD;
            }
            int[] types = least(-1, 0);
            return types == null ? NO : types[i];
        }

        int surely(int i, int c) {
            if (!isThing(i) || !isConcept(c)) {
                return BAD;
            }
            return least(i, c) == null ? 1 : 0;
        }
    }
}
