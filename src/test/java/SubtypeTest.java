/** Promise 4. */
public final class SubtypeTest {
    private static final int A = 2;       // [0:EMPTY]
    private static final int AB = 3;      // [0:EMPTY, 1:EMPTY]
    private static final int TOP0 = 4;    // [0:TOP]
    private static final int DEEP = 5;    // [0:A]
    private static final int B = 6;       // [1:EMPTY]
    private static final int DEEP_B = 7;  // [0:A, 1:EMPTY]
    private static final int COUNT = 8;

    public static void main(String[] args) {
        wholeRelation();
        itself();
        everyTypeBelowTop();
        topOnlyBelowTop();
        everyObjectTypeBelowEmpty();
        width();
        noDepth();
        eightLabels();
        neighboursDoNotCount();
        noType();
        changesNothing();
        Due.end();
    }

    private static ObjectCalculus table() {
        ObjectCalculus x = new ObjectCalculus(8, 32);
        x.extendType(1, 0, 1);
        x.extendType(A, 1, 1);
        x.extendType(1, 0, 0);
        x.extendType(1, 0, A);
        x.extendType(1, 1, 1);
        Due.is("the last type", x.extendType(DEEP, 1, 1), DEEP_B);
        return x;
    }

    private static void due(ObjectCalculus x, int a, int b, boolean want) {
        Due.is("isSubtype(" + a + ", " + b + ")", x.isSubtype(a, b), want);
    }

    private static void wholeRelation() {
        boolean[][] want = new boolean[COUNT][COUNT];
        for (int t = 0; t < COUNT; t++) {
            want[t][t] = true;
            want[t][0] = true;
            want[t][1] = t != 0;
        }
        want[AB][A] = true;
        want[AB][B] = true;
        want[DEEP_B][DEEP] = true;
        want[DEEP_B][B] = true;
        ObjectCalculus x = table();
        for (int a = 0; a < COUNT; a++) {
            for (int b = 0; b < COUNT; b++) {
                due(x, a, b, want[a][b]);
            }
        }
    }

    private static void itself() {
        ObjectCalculus x = table();
        for (int t = 0; t < COUNT; t++) {
            due(x, t, t, true);
        }
    }

    private static void everyTypeBelowTop() {
        ObjectCalculus x = table();
        for (int t = 0; t < COUNT; t++) {
            due(x, t, ObjectCalculus.TOP, true);
        }
    }

    private static void topOnlyBelowTop() {
        ObjectCalculus x = table();
        for (int t = 0; t < COUNT; t++) {
            due(x, ObjectCalculus.TOP, t, t == ObjectCalculus.TOP);
        }
    }

    private static void everyObjectTypeBelowEmpty() {
        ObjectCalculus x = table();
        for (int t = 1; t < COUNT; t++) {
            due(x, t, ObjectCalculus.EMPTY, true);
            due(x, ObjectCalculus.EMPTY, t, t == ObjectCalculus.EMPTY);
        }
    }

    private static void width() {
        ObjectCalculus x = table();
        due(x, AB, A, true);
        due(x, AB, B, true);
        due(x, A, AB, false);
        due(x, B, AB, false);
        due(x, A, B, false);
    }

    private static void noDepth() {
        ObjectCalculus x = table();
        due(x, A, TOP0, false);
        due(x, TOP0, A, false);
        due(x, DEEP, A, false);
        due(x, A, DEEP, false);
        due(x, DEEP_B, AB, false);
        due(x, DEEP_B, A, false);
    }

    /** Every label of B counts, from the first to the last of eight. */
    private static void eightLabels() {
        ObjectCalculus x = new ObjectCalculus(8, 32);
        int[] prefix = new int[9];
        prefix[0] = 1;
        for (int i = 0; i < 8; i++) {
            prefix[i + 1] = x.extendType(prefix[i], i == 7 ? 15 : i, 1);
        }
        for (int i = 0; i <= 8; i++) {
            for (int j = 0; j <= 8; j++) {
                due(x, prefix[i], prefix[j], i >= j);
            }
        }
        int other = x.extendType(prefix[7], 15, 0);
        due(x, prefix[8], other, false);
        due(x, other, prefix[8], false);
    }

    /** The types right before and behind the two differ in the labels 15 and 0, which are none of theirs. */
    private static void neighboursDoNotCount() {
        ObjectCalculus x = new ObjectCalculus(8, 32);
        x.extendType(1, 15, 0);
        int narrow = x.extendType(1, 7, 1);
        x.extendType(1, 0, 0);
        x.extendType(1, 15, 1);
        int wide = x.extendType(narrow, 8, 1);
        x.extendType(1, 0, 1);
        due(x, wide, narrow, true);
        due(x, narrow, wide, false);
    }

    private static void noType() {
        ObjectCalculus x = table();
        for (int wrong : Outside.of(COUNT)) {
            due(x, wrong, wrong, false);
            for (int t = 0; t < COUNT; t++) {
                due(x, wrong, t, false);
                due(x, t, wrong, false);
            }
        }
        x = Scene.makeWithFullTypes();
        due(x, Scene.TYPES + 2, Scene.TYPES + 2, true);
        due(x, Scene.TYPES + 3, Scene.TYPES + 3, false);
    }

    private static void changesNothing() {
        int[][] calls = {{Scene.TWO, Scene.ONE, 1}, {0, 1, 0}, {-1, 0, 0}, {Scene.TYPES, 0, 0}, {0, Scene.TYPES, 0}};
        for (int[] call : calls) {
            String name = "isSubtype(" + call[0] + ", " + call[1] + ")";
            Twin.changesNothing(name, Scene::make, x -> x.isSubtype(call[0], call[1]) ? 1 : 0, call[2]);
        }
    }
}
