/** Promise 3. */
public final class TypeMemberTest {
    public static void main(String[] args) {
        members();
        noType();
        top();
        empty();
        labelNotThere();
        noLabel();
        changesNothing();
        Due.end();
    }

    private static void due(ObjectCalculus x, int t, int label, int want) {
        Due.is("typeMember(" + t + ", " + label + ")", x.typeMember(t, label), want);
    }

    private static void members() {
        ObjectCalculus x = new ObjectCalculus(8, 32);
        int a = x.extendType(1, 0, 0);
        int b = x.extendType(a, 15, 1);
        int c = x.extendType(b, 7, b);
        int[][] rows = {{a, 0, 0}, {b, 0, 0}, {b, 15, 1}, {c, 0, 0}, {c, 7, b}, {c, 15, 1}};
        for (int[] row : rows) {
            due(x, row[0], row[1], row[2]);
        }
    }

    private static void noType() {
        ObjectCalculus x = Scene.make();
        for (int t : Outside.of(Scene.TYPES)) {
            due(x, t, 0, -1);
            due(x, t, 15, -1);
            due(x, t, -1, -1);
        }
        x = Scene.makeWithFullTypes();
        due(x, Scene.TYPES + 2, 14, 2);
        due(x, Scene.TYPES + 3, 14, -1);
        x = new ObjectCalculus(8, 32);
        for (int i = 2; i < 32; i++) {
            x.extendType(1, 15, i - 1);
        }
        due(x, 31, 15, 30);
        for (int t : Outside.of(32)) {
            due(x, t, 15, -1);
        }
    }

    private static void top() {
        ObjectCalculus x = Scene.make();
        for (int label = -20; label <= 600; label++) {
            due(x, ObjectCalculus.TOP, label, -1);
        }
    }

    private static void empty() {
        ObjectCalculus x = Scene.make();
        for (int label = -20; label <= 600; label++) {
            due(x, ObjectCalculus.EMPTY, label, -1);
        }
    }

    private static void labelNotThere() {
        ObjectCalculus x = Scene.make();
        for (int label = 0; label < 16; label++) {
            due(x, Scene.ONE, label, label == 0 ? 1 : -1);
            due(x, Scene.TWO, label, label == 0 ? 1 : label == 15 ? Scene.ONE : -1);
            due(x, Scene.LAST, label, label == 15 ? 0 : -1);
        }
    }

    /** Every second type has both the first and the last label, so that a wrong label would meet a neighbour's. */
    private static void noLabel() {
        ObjectCalculus x = new ObjectCalculus(8, 32);
        for (int i = 2; i < 32; i += 2) {
            int t = x.extendType(1, 0, i - 1);
            Due.is("a type with both labels", x.extendType(t, 15, i), i + 1);
        }
        for (int t = 0; t < 32; t++) {
            for (int label : Outside.SIXTEEN) {
                due(x, t, label, -1);
            }
        }
    }

    private static void changesNothing() {
        int[][] calls = {{Scene.TWO, 15, Scene.ONE}, {Scene.TWO, 7, -1}, {0, 0, -1}, {-1, 0, -1},
            {Scene.TYPES, 0, -1}, {1, 16, -1}};
        for (int[] call : calls) {
            String name = "typeMember(" + call[0] + ", " + call[1] + ")";
            Twin.changesNothing(name, Scene::make, x -> x.typeMember(call[0], call[1]), call[2]);
        }
    }
}
