import java.util.List;
import java.util.function.Supplier;

/** Promise 8. */
public final class SelectTest {
    public static void main(String[] args) {
        ordinary();
        everyLabel();
        noNode();
        receiverWithAParent();
        noLabel();
        fullTable();
        refusalsTogether();
        theLastPlace();
        leavesTheRestAlone();
        Due.end();
    }

    private static void refused(Supplier<ObjectCalculus> past, int a, int label) {
        Twin.changesNothing("select(" + a + ", " + label + ")", past, x -> x.select(a, label), -1);
    }

    private static void ordinary() {
        ObjectCalculus x = Scene.make();
        int[] receivers = {Scene.VAR, Scene.OBJ, Scene.SEL, Scene.UPD};
        for (int i = 0; i < receivers.length; i++) {
            int s = x.select(receivers[i], i);
            Due.is("select(" + receivers[i] + ", " + i + ")", s, Scene.NODES + i);
            Due.is("the receiver's parent", x.nodeParent(receivers[i]), s);
            Due.is("a new select has no parent", x.nodeParent(s), -1);
        }
    }

    private static void everyLabel() {
        for (int l = 0; l < 16; l++) {
            ObjectCalculus x = new ObjectCalculus(8, 8);
            int t = x.extendType(1, l, 0);
            int b = x.object(1);
            int o = x.object(t);
            x.addMethod(o, l, b);
            int s = x.select(o, l);
            Due.is("check of select " + l, x.check(s), 0);
            Due.is("run of select " + l, x.run(s, 1), 0);
            Due.is("result of select " + l, x.resultType(), 1);
        }
    }

    private static void noNode() {
        for (int a : Outside.of(Scene.NODES)) {
            refused(Scene::make, a, 0);
        }
    }

    private static void receiverWithAParent() {
        for (int a : new int[] {Scene.TAKEN_VAR, Scene.TAKEN_OBJ, 3, 4, 5, 10}) {
            refused(Scene::make, a, 0);
        }
        ObjectCalculus x = Scene.make();
        x.select(Scene.VAR, 0);
        Due.is("a second select of one receiver", x.select(Scene.VAR, 1), -1);
        Due.is("its parent stays", x.nodeParent(Scene.VAR), Scene.NODES);
    }

    private static void noLabel() {
        for (int label : Outside.SIXTEEN) {
            refused(Scene::make, Scene.OBJ, label);
        }
    }

    private static void fullTable() {
        refused(Scene::makeWithFullNodes, Scene.OBJ, 0);
        refused(Scene::makeWithFullNodes, Scene.SEL, 15);
        refused(Scene::makeWithFullNodes, Scene.LATE_VAR, 15);
    }

    private static void refusalsTogether() {
        refused(Scene::make, -1, 16);
        refused(Scene::make, Scene.NODES, -1);
        refused(Scene::make, Scene.TAKEN_OBJ, 16);
        refused(Scene::makeWithFullNodes, Scene.NODES, 0);
        refused(Scene::makeWithFullNodes, Scene.TAKEN_OBJ, 0);
        refused(Scene::makeWithFullNodes, Scene.OBJ, 16);
    }

    private static void theLastPlace() {
        for (int cap : new int[] {8, 9, 31, 32}) {
            ObjectCalculus x = new ObjectCalculus(cap, 8);
            for (int n = 0; n < cap - 1; n++) {
                x.variable(0);
            }
            Due.is("the last place of " + cap, x.select(cap - 2, 0), cap - 1);
            Due.is("nodeParent(" + (cap - 2) + ")", x.nodeParent(cap - 2), cap - 1);
            Due.is("a node behind it", x.select(cap - 1, 0), -1);
            Due.is("the last node's parent", x.nodeParent(cap - 1), -1);
        }
    }

    private static void leavesTheRestAlone() {
        List<Twin.Part> parts = List.of(Twin::types, Twin::errorNode, Twin::result, Twin::sceneTerms);
        Twin.keeps("select(OBJ, 15)", Scene::make, x -> x.select(Scene.OBJ, 15), Scene.NODES, parts);
    }
}
