/** Promise 7. */
public final class AddMethodTest {
    public static void main(String[] args) {
        ordinary();
        refusals();
        eightMethods();
        addingOrder();
        underAParent();
        resultStands();
        Due.end();
    }

    private static void ordinary() {
        ObjectCalculus x = new ObjectCalculus(8, 8);
        int b = x.variable(0);
        int c = x.object(1);
        int o = x.object(1);
        Due.is("addMethod(o, 0, b)", x.addMethod(o, 0, b), true);
        Due.is("addMethod(o, 15, c)", x.addMethod(o, 15, c), true);
        Due.is("nodeParent(b)", x.nodeParent(b), o);
        Due.is("nodeParent(c)", x.nodeParent(c), o);
        Due.is("nodeParent(o)", x.nodeParent(o), -1);
        x.run(o, 0);
        Due.is("resultBody(0)", x.resultBody(0), b);
        Due.is("resultBody(15)", x.resultBody(15), c);
        Due.is("no node is made", x.variable(0), 3);
    }

    private static void refusals() {
        ObjectCalculus x = new ObjectCalculus(16, 8);
        int a = x.object(1);
        int taken = x.variable(0);
        int v = x.variable(0);
        int o = x.object(1);
        int later = x.variable(0);
        int s = x.select(x.variable(0), 0);
        int u = x.update(x.variable(0), 0, 1, x.variable(0));
        Due.is("a first method", x.addMethod(o, 3, taken), true);
        int[] notObject = {-1, 10, 15, 16, Integer.MIN_VALUE, Integer.MAX_VALUE, v, s, u};
        for (int n : notObject) {
            Due.is("addMethod(" + n + ", 0, a)", x.addMethod(n, 0, a), false);
        }
        int[] noLabel = {-1, 16, Integer.MIN_VALUE, Integer.MAX_VALUE};
        for (int l : noLabel) {
            Due.is("addMethod(o, " + l + ", a)", x.addMethod(o, l, a), false);
        }
        int[] wrongBody = {-1, 10, 16, Integer.MIN_VALUE, Integer.MAX_VALUE, o, later, s, u, taken};
        for (int b : wrongBody) {
            Due.is("addMethod(o, 0, " + b + ")", x.addMethod(o, 0, b), false);
        }
        Due.is("a label that is there", x.addMethod(o, 3, a), false);
        Due.is("an object as its own body", x.addMethod(a, 0, a), false);
        for (int n : new int[] {a, v, o, later, s, u}) {
            Due.is("refusals set no parent of " + n, x.nodeParent(n), -1);
        }
        Due.is("run(o, 0)", x.run(o, 0), 0);
        for (int l = 0; l < 16; l++) {
            Due.is("resultBody(" + l + ")", x.resultBody(l), l == 3 ? taken : -1);
        }
        Due.is("the body is still loose", x.addMethod(o, 0, a), true);
        Due.is("no node was made", x.variable(0), 10);
    }

    private static void eightMethods() {
        ObjectCalculus x = new ObjectCalculus(32, 8);
        for (int i = 0; i < 9; i++) {
            x.variable(0);
        }
        int other = x.variable(0);
        int o = x.object(1);
        int p = x.object(1);
        for (int i = 0; i < 8; i++) {
            Due.is("method " + (i + 1) + " of 8", x.addMethod(o, 15 - i, i), true);
            Due.is("its label again", x.addMethod(o, 15 - i, 8), false);
        }
        for (int l = 0; l < 16; l++) {
            Due.is("a ninth method " + l, x.addMethod(o, l, 8), false);
        }
        Due.is("nodeParent of the ninth body", x.nodeParent(8), -1);
        Due.is("the next object has no method", x.addMethod(p, 8, other), true);
        x.run(p, 0);
        Due.is("its method", x.resultBody(8), other);
        Due.is("and no other", x.resultBody(15), -1);
        x.run(o, 0);
        for (int l = 0; l < 16; l++) {
            Due.is("resultBody(" + l + ")", x.resultBody(l), l >= 8 ? 15 - l : -1);
        }
    }

    private static void addingOrder() {
        for (int first = 0; first < 2; first++) {
            ObjectCalculus x = new ObjectCalculus(8, 8);
            int t = x.extendType(1, 0, 1);
            t = x.extendType(t, 1, 1);
            int[] bodies = {x.variable(5), x.variable(6)};
            int o = x.object(t);
            x.addMethod(o, first, bodies[1]);
            x.addMethod(o, 1 - first, bodies[0]);
            x.check(o);
            Due.is("the first method is checked first", x.errorNode(), bodies[1]);
        }
    }

    private static void underAParent() {
        ObjectCalculus x = new ObjectCalculus(8, 8);
        int t = x.extendType(1, 2, 1);
        int b = x.object(1);
        int o = x.object(t);
        int s = x.select(o, 2);
        Due.is("check(s) before", x.check(s), ObjectCalculus.CK_LABELS);
        Due.is("run(s, 5) before", x.run(s, 5), ObjectCalculus.RUN_MNU);
        Due.is("addMethod to an object with a parent", x.addMethod(o, 2, b), true);
        Due.is("errorNode() after addMethod", x.errorNode(), o);
        Due.is("check(s) after", x.check(s), 1);
        Due.is("run(s, 5) after", x.run(s, 5), ObjectCalculus.RUN_VALUE);
    }

    private static void resultStands() {
        ObjectCalculus x = new ObjectCalculus(8, 8);
        int b = x.object(1);
        int o = x.object(1);
        x.run(o, 5);
        Due.is("addMethod after the run", x.addMethod(o, 2, b), true);
        Due.is("the result is as the run reached it", x.resultBody(2), -1);
        Due.is("objectsCreated() after addMethod", x.objectsCreated(), 1);
        x.run(o, 5);
        Due.is("the next run has the method", x.resultBody(2), b);
    }
}
