import java.util.ArrayList;
import java.util.List;

/** Objects brought to where the document's limits are, and numbers that lie beyond these. */
final class States {
    static final Sentences.Calls EMPTY = x -> { };
    static final Sentences.Calls ORDINARY = States::makeOrdinary;
    static final Sentences.Calls ALL_FULL = States::makeAllFull;

    /** 80 concepts, 1 atom: NAME 0 and NOTs of NOTs of it. */
    static final Sentences.Calls FULL_OF_CONCEPTS = x -> fillTo(x, 80);

    /** 12 concepts, 10 atoms: SOMEs alone. */
    static final Sentences.Calls FULL_OF_ATOMS = x -> makeSomes(x, 10);

    private States() {
    }

    /** The least and the greatest int, the nearest ones on both sides, and some that wrap around. */
    static int[] outside(int bound) {
        int[] tried = {
            Integer.MIN_VALUE, Integer.MIN_VALUE + 1, Integer.MIN_VALUE + bound, -65536, -65535, -256,
            -64, -32, -bound - 1, -bound, -4, -3, -2, -1, bound, bound + 1, bound + 2, 31, 32, 33, 63,
            64, 65, 79, 80, 81, 255, 256, 257, 1023, 1024, 65536, 65537, 1 << 30, (1 << 30) + 1,
            Integer.MAX_VALUE - 1, Integer.MAX_VALUE
        };
        List<Integer> kept = new ArrayList<>();
        for (int n : tried) {
            if ((n < 0 || n >= bound) && !kept.contains(n)) {
                kept.add(n);
            }
        }
        return kept.stream().mapToInt(Integer::intValue).toArray();
    }

    /** NAME 0 is concept 2; concept c after it is NOT concept c - 1. */
    static void fillTo(TableauNodes x, int concepts) {
        x.class0(0);
        for (int c = 3; c < concepts; c++) {
            x.concept(3, c - 1, 0);
        }
    }

    /** Concept 2 + k is atom k: SOME of THING, of NOTHING, of the first SOME, by one role after another. */
    static void makeSomes(TableauNodes x, int count) {
        for (int k = 0; k < count; k++) {
            x.concept(6, k % 4, k / 4);
        }
    }

    private static void makeOrdinary(TableauNodes x) {
        x.class0(3);
        x.class0(0);
        x.concept(3, 2, 0);
        x.concept(4, 2, 3);
        x.concept(5, 4, 3);
        x.concept(6, 1, 3);
        x.concept(7, 2, 2);
        x.axiom(2, 7);
        x.axiom(3, 4);
        x.role(1, 2);
        x.individual(0, 6);
        x.individual(2, 9);
        x.has(0, 1, 2);
        x.has(2, 2, 3);
    }

    private static void makeAllFull(TableauNodes x) {
        for (int k = 0; k < 5; k++) {
            x.class0(k);
        }
        x.concept(7, 0, 2);
        x.concept(6, 1, 3);
        x.concept(6, 2, 4);
        x.concept(6, 3, 10);
        x.concept(6, 0, 5);
        for (int c = 14; c < 80; c++) {
            x.concept(4 + c % 2, c - 1, 2 + c % 12);
        }
        x.axiom(2, 10);
        x.axiom(13, 3);
        for (int n = 2; n < 30; n++) {
            x.axiom(n == 29 ? 11 : 12 + n, n == 29 ? 6 : 12 + n);
        }
        x.role(0, 1);
        x.role(2, 3);
        x.individual(0, 2);
        x.individual(1, 9);
        x.has(0, 0, 1);
        x.has(1, 1, 2);
        for (int n = 2; n < 40; n++) {
            x.individual(n % 5, 0);
            x.has(n % 5, n % 4, n * 3 % 5);
        }
    }
}
