import java.util.List;
import java.util.function.Supplier;

/** Promise 9. */
public final class UpdateTest {
    public static void main(String[] args) {
        ordinary();
        everyLabel();
        top();
        noNodeAsReceiver();
        noNodeAsBody();
        receiverIsBody();
        receiverWithAParent();
        bodyWithAParent();
        noLabel();
        noType();
        fullTable();
        refusalsTogether();
        theLastPlace();
        leavesTheRestAlone();
        Due.end();
    }

    private static void refused(Supplier<ObjectCalculus> past, int a, int label, int type, int body) {
        String call = "update(" + a + ", " + label + ", " + type + ", " + body + ")";
        Twin.changesNothing(call, past, x -> x.update(a, label, type, body), -1);
    }

    private static void refused(int a, int label, int type, int body) {
        refused(Scene::make, a, label, type, body);
    }

    private static void ordinary() {
        ObjectCalculus x = Scene.make();
        int[][] rows = {{Scene.OBJ, Scene.VAR}, {Scene.OPEN_VAR, Scene.LATE_VAR}, {Scene.SEL, Scene.UPD}};
        for (int i = 0; i < rows.length; i++) {
            int a = rows[i][0];
            int body = rows[i][1];
            int u = x.update(a, i, i, body);
            Due.is("update(" + a + ", " + i + ", " + i + ", " + body + ")", u, Scene.NODES + i);
            Due.is("the receiver's parent", x.nodeParent(a), u);
            Due.is("the body's parent", x.nodeParent(body), u);
            Due.is("a new update has no parent", x.nodeParent(u), -1);
        }
    }

    private static void everyLabel() {
        for (int l = 0; l < 16; l++) {
            ObjectCalculus x = new ObjectCalculus(8, 8);
            int t = x.extendType(1, l, 0);
            int b = x.object(1);
            int o = x.object(t);
            x.addMethod(o, l, b);
            int body = x.variable(0);
            int u = x.update(o, l, t, body);
            Due.is("check of update " + l, x.check(u), t);
            Due.is("run of update " + l, x.run(u, 0), 0);
            Due.is("result of update " + l, x.resultBody(l), body);
        }
    }

    private static void top() {
        ObjectCalculus x = Scene.make();
        int u = x.update(Scene.OBJ, 15, ObjectCalculus.TOP, Scene.VAR);
        Due.is("update at TOP", u, Scene.NODES);
        Due.is("check of an update at TOP", x.check(u), ObjectCalculus.CK_LABELS);
        u = x.update(Scene.EMPTY_OBJ, 15, ObjectCalculus.TOP, Scene.LATE_VAR);
        Due.is("check of an update at TOP with a sound receiver", x.check(u), ObjectCalculus.CK_NOT_OBJECT);
        Due.is("run of an update at TOP", x.run(Scene.NODES, 0), ObjectCalculus.RUN_VALUE);
        Due.is("its origin", x.resultType(), ObjectCalculus.TOP);
    }

    private static void noNodeAsReceiver() {
        for (int a : Outside.of(Scene.NODES)) {
            refused(a, 0, 1, Scene.VAR);
        }
    }

    private static void noNodeAsBody() {
        for (int body : Outside.of(Scene.NODES)) {
            refused(Scene.OBJ, 0, 1, body);
        }
    }

    private static void receiverIsBody() {
        for (int a : new int[] {Scene.OBJ, Scene.VAR, Scene.SEL, Scene.UPD}) {
            refused(a, 0, 1, a);
        }
    }

    private static void receiverWithAParent() {
        for (int a : new int[] {Scene.TAKEN_VAR, Scene.TAKEN_OBJ, 3, 5, 10}) {
            refused(a, 0, 1, Scene.VAR);
        }
    }

    private static void bodyWithAParent() {
        for (int body : new int[] {Scene.TAKEN_VAR, Scene.TAKEN_OBJ, 3, 5, 10}) {
            refused(Scene.OBJ, 0, 1, body);
        }
    }

    private static void noLabel() {
        for (int label : Outside.SIXTEEN) {
            refused(Scene.OBJ, label, 1, Scene.VAR);
        }
    }

    private static void noType() {
        for (int type : Outside.of(Scene.TYPES)) {
            refused(Scene.OBJ, 0, type, Scene.VAR);
        }
        for (int type : Outside.of(Scene.TYPES + 3)) {
            refused(Scene::makeWithFullTypes, Scene.OBJ, 0, type, Scene.VAR);
        }
        ObjectCalculus x = Scene.makeWithFullTypes();
        Due.is("update at the last type", x.update(Scene.OBJ, 0, Scene.TYPES + 2, Scene.VAR), Scene.NODES);
    }

    private static void fullTable() {
        refused(Scene::makeWithFullNodes, Scene.OBJ, 0, 1, Scene.VAR);
        refused(Scene::makeWithFullNodes, Scene.VAR, 15, 0, Scene.OBJ);
        refused(Scene::makeWithFullNodes, Scene.LATE_VAR, 15, 1, Scene.SEL);
    }

    private static void refusalsTogether() {
        refused(-1, -1, -1, -1);
        refused(Scene.NODES, 16, Scene.TYPES, Scene.NODES);
        refused(Scene.TAKEN_OBJ, 0, 1, Scene.TAKEN_OBJ);
        refused(Scene.TAKEN_OBJ, 0, 1, Scene.TAKEN_VAR);
        refused(Scene.OBJ, 16, Scene.TYPES, Scene.OBJ);
        refused(Scene.OBJ, 16, 1, Scene.TAKEN_VAR);
        refused(Scene::makeWithFullNodes, Scene.OBJ, 0, 1, Scene.NODES);
        refused(Scene::makeWithFullNodes, Scene.NODES, 0, 1, Scene.OBJ);
        refused(Scene::makeWithFullNodes, Scene.OBJ, 0, Scene.TYPES, Scene.VAR);
    }

    private static void theLastPlace() {
        for (int cap : new int[] {8, 9, 31, 32}) {
            ObjectCalculus x = new ObjectCalculus(cap, 8);
            for (int n = 0; n < cap - 1; n++) {
                x.variable(0);
            }
            Due.is("the last place of " + cap, x.update(0, 0, 1, cap - 2), cap - 1);
            Due.is("the receiver's parent", x.nodeParent(0), cap - 1);
            Due.is("the body's parent", x.nodeParent(cap - 2), cap - 1);
            Due.is("a node behind it", x.update(cap - 1, 0, 1, 1), -1);
            Due.is("the last node's parent", x.nodeParent(cap - 1), -1);
            Due.is("the node 1's parent", x.nodeParent(1), -1);
        }
    }

    private static void leavesTheRestAlone() {
        List<Twin.Part> parts = List.of(Twin::types, Twin::errorNode, Twin::result, Twin::sceneTerms);
        Twin.keeps("update(OBJ, 15, ONE, VAR)", Scene::make,
            x -> x.update(Scene.OBJ, 15, Scene.ONE, Scene.VAR), Scene.NODES, parts);
    }
}
