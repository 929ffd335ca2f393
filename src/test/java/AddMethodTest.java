import java.util.List;
import java.util.function.Supplier;

/** Promise 7. */
public final class AddMethodTest {
    public static void main(String[] args) {
        ordinary();
        noNodeAsObject();
        notAnObject();
        noLabel();
        noNodeAsBody();
        bodyNotBeforeObject();
        bodyWithAParent();
        labelTwice();
        nineMethods();
        refusalsTogether();
        eightMethods();
        inAFullTable();
        addingOrder();
        objectWithAParent();
        partOfEveryTermAround();
        resultStands();
        leavesTheRestAlone();
        Due.end();
    }

    private static void refused(Supplier<ObjectCalculus> past, int obj, int label, int body) {
        String call = "addMethod(" + obj + ", " + label + ", " + body + ")";
        Twin.changesNothing(call, past, x -> x.addMethod(obj, label, body) ? 1 : 0, 0);
    }

    private static void refused(int obj, int label, int body) {
        refused(Scene::make, obj, label, body);
    }

    private static void ordinary() {
        ObjectCalculus x = new ObjectCalculus(8, 8);
        int b = x.variable(0);
        int c = x.object(1);
        int o = x.object(1);
        Due.is("addMethod(o, 0, b)", x.addMethod(o, 0, b), true);
        Due.is("addMethod(o, 15, c)", x.addMethod(o, 15, c), true);
        Due.is("nodeParent(b)", x.nodeParent(b), o);
        Due.is("nodeParent(c)", x.nodeParent(c), o);
        Due.is("nodeParent(o)", x.nodeParent(o), -1);
        x.run(o, 0);
        for (int l = 0; l < 16; l++) {
            Due.is("resultBody(" + l + ")", x.resultBody(l), l == 0 ? b : l == 15 ? c : -1);
        }
    }

    private static void noNodeAsObject() {
        for (int obj : Outside.of(Scene.NODES)) {
            refused(obj, 1, Scene.VAR);
        }
    }

    private static void notAnObject() {
        refused(Scene.LATE_VAR, 1, Scene.VAR);
        refused(Scene.SEL, 1, Scene.VAR);
        refused(Scene.UPD, 1, Scene.SEL);
        refused(Scene.VAR, 1, Scene.OPEN_VAR);
    }

    private static void noLabel() {
        for (int label : Outside.SIXTEEN) {
            refused(Scene.OBJ, label, Scene.VAR);
            refused(Scene.EMPTY_OBJ, label, Scene.VAR);
        }
    }

    private static void noNodeAsBody() {
        for (int body : Outside.of(Scene.NODES)) {
            refused(Scene.OBJ, 1, body);
        }
    }

    private static void bodyNotBeforeObject() {
        refused(Scene.OBJ, 1, Scene.OBJ);
        refused(Scene.OBJ, 1, Scene.LATE_VAR);
        refused(Scene.EMPTY_OBJ, 1, Scene.EMPTY_OBJ);
        refused(Scene.EMPTY_OBJ, 1, Scene.OBJ);
        ObjectCalculus x = Scene.make();
        Due.is("a body right before the object", x.addMethod(Scene.EMPTY_OBJ, 1, Scene.EMPTY_OBJ - 1), true);
    }

    private static void bodyWithAParent() {
        refused(Scene.OBJ, 1, Scene.TAKEN_VAR);
        refused(Scene.OBJ, 1, Scene.TAKEN_OBJ);
        refused(Scene.OBJ, 1, Scene.OBJ - 1);
        refused(Scene.EMPTY_OBJ, 1, 3);
        refused(Scene.EMPTY_OBJ, 1, 5);
    }

    private static void labelTwice() {
        refused(Scene.OBJ, 15, Scene.VAR);
        refused(eight(), 20, 15, 18);
        refused(eight(), 20, 8, 18);
    }

    private static void nineMethods() {
        for (int label = 0; label < 8; label++) {
            refused(eight(), 20, label, 18);
        }
    }

    /** The variables 0..19 and the literals 20 and 21, the first of these with the methods 15 = 0, 14 = 1, .. 8 = 7. */
    private static Supplier<ObjectCalculus> eight() {
        return () -> {
            ObjectCalculus x = new ObjectCalculus(32, 32);
            for (int i = 0; i < 20; i++) {
                x.variable(0);
            }
            x.object(1);
            x.object(1);
            for (int i = 0; i < 8; i++) {
                x.addMethod(20, 15 - i, i);
            }
            return x;
        };
    }

    private static void refusalsTogether() {
        for (int wrong : Outside.of(Scene.NODES)) {
            refused(wrong, wrong, wrong);
            refused(wrong, 16, Scene.TAKEN_VAR);
            refused(Scene.OBJ, -1, wrong);
            refused(Scene.OBJ, 15, wrong);
        }
        refused(Scene.OBJ, 15, Scene.OBJ);
        refused(Scene.OBJ, 15, Scene.TAKEN_VAR);
        refused(eight(), 20, 15, 0);
        refused(eight(), 20, 16, 20);
    }

    private static void eightMethods() {
        ObjectCalculus x = eight().get();
        Due.is("the object behind one with eight", x.addMethod(21, 8, 19), true);
        x.run(21, 0);
        for (int l = 0; l < 16; l++) {
            Due.is("resultBody(" + l + ") of one method", x.resultBody(l), l == 8 ? 19 : -1);
        }
        x.run(20, 0);
        for (int l = 0; l < 16; l++) {
            Due.is("resultBody(" + l + ") of eight methods", x.resultBody(l), l >= 8 ? 15 - l : -1);
        }
        for (int i = 0; i < 8; i++) {
            Due.is("nodeParent(" + i + ")", x.nodeParent(i), 20);
        }
    }

    /** A method takes no place in the node table; the literal is the table's last node. */
    private static void inAFullTable() {
        ObjectCalculus x = new ObjectCalculus(32, 8);
        for (int i = 0; i < 31; i++) {
            x.variable(0);
        }
        int o = x.object(1);
        Due.is("the last node", o, 31);
        for (int i = 0; i < 8; i++) {
            Due.is("method " + (i + 1) + " of the last node", x.addMethod(o, i, 30 - i), true);
        }
        x.run(o, 0);
        for (int l = 0; l < 16; l++) {
            Due.is("resultBody(" + l + ") of the last node", x.resultBody(l), l < 8 ? 30 - l : -1);
        }
    }

    private static void addingOrder() {
        for (int first = 0; first < 2; first++) {
            ObjectCalculus x = new ObjectCalculus(8, 8);
            int t = x.extendType(1, 0, 1);
            t = x.extendType(t, 1, 1);
            int[] bodies = {x.variable(5), x.variable(6)};
            int o = x.object(t);
            x.addMethod(o, first, bodies[1]);
            x.addMethod(o, 1 - first, bodies[0]);
            x.check(o);
            Due.is("the first method is checked first", x.errorNode(), bodies[1]);
        }
    }

    private static void objectWithAParent() {
        ObjectCalculus x = new ObjectCalculus(8, 8);
        int t = x.extendType(1, 2, 1);
        int b = x.object(1);
        int o = x.object(t);
        int s = x.select(o, 2);
        Due.is("check(s) before", x.check(s), ObjectCalculus.CK_LABELS);
        Due.is("run(s, 5) before", x.run(s, 5), ObjectCalculus.RUN_MNU);
        Due.is("addMethod to an object with a parent", x.addMethod(o, 2, b), true);
        Due.is("errorNode() after addMethod", x.errorNode(), o);
        Due.is("nodeParent(b)", x.nodeParent(b), o);
        Due.is("nodeParent(o)", x.nodeParent(o), s);
        Due.is("check(s) after", x.check(s), 1);
        Due.is("run(s, 5) after", x.run(s, 5), ObjectCalculus.RUN_VALUE);
    }

    /** A method with a free variable, added far below the root, opens each term that contains the object. */
    private static void partOfEveryTermAround() {
        ObjectCalculus x = new ObjectCalculus(8, 8);
        int v = x.variable(2);
        int o = x.object(1);
        int s = x.select(o, 0);
        int p = x.object(1);
        x.addMethod(p, 3, s);
        int q = x.object(1);
        x.addMethod(q, 4, p);
        Due.is("addMethod(o, 0, v)", x.addMethod(o, 0, v), true);
        Due.is("run(o, 5)", x.run(o, 5), ObjectCalculus.RUN_OPEN);
        Due.is("run(s, 5)", x.run(s, 5), ObjectCalculus.RUN_OPEN);
        Due.is("run(p, 5)", x.run(p, 5), ObjectCalculus.RUN_OPEN);
        Due.is("run(q, 5)", x.run(q, 5), ObjectCalculus.RUN_VALUE);
    }

    private static void resultStands() {
        ObjectCalculus x = new ObjectCalculus(8, 8);
        int b = x.object(1);
        int o = x.object(1);
        x.run(o, 5);
        Due.is("addMethod after the run", x.addMethod(o, 2, b), true);
        Due.is("the result is as the run reached it", x.resultBody(2), -1);
        Due.is("objectsCreated() after addMethod", x.objectsCreated(), 1);
        x.run(o, 5);
        Due.is("the next run has the method", x.resultBody(2), b);
    }

    private static void leavesTheRestAlone() {
        List<Twin.Part> parts = List.of(Twin::types, Twin::errorNode, Twin::result, Twin::room);
        Twin.keeps("addMethod(OBJ, 1, VAR)", Scene::make, x -> x.addMethod(Scene.OBJ, 1, Scene.VAR) ? 1 : 0, 1, parts);
        Twin.keeps("addMethod(TAKEN_OBJ, ..)", () -> {
            ObjectCalculus x = new ObjectCalculus(8, 8);
            x.variable(0);
            x.object(1);
            x.select(1, 0);
            x.check(2);
            x.run(1, 3);
            return x;
        }, x -> x.addMethod(1, 0, 0) ? 1 : 0, 1, parts);
    }
}
