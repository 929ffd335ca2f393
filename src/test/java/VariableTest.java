import java.util.List;
import java.util.Map;
import java.util.TreeMap;

/** Promise 5. */
public final class VariableTest {
    public static void main(String[] args) {
        zeroAndFifteen();
        noVariable();
        fullTable();
        noVariableInAFullTable();
        theLastPlace();
        notYetANode();
        idsInCreationOrder();
        nodesStay();
        newVariable();
        indicesCountFromTheInnermost();
        leavesTheRestAlone();
        Due.end();
    }

    private static void zeroAndFifteen() {
        ObjectCalculus x = new ObjectCalculus(16, 8);
        for (int k = 0; k <= 15; k++) {
            Due.is("variable(" + k + ")", x.variable(k), k);
        }
    }

    private static void noVariable() {
        for (int k : Outside.SIXTEEN) {
            Twin.changesNothing("variable(" + k + ")", Scene::make, x -> x.variable(k), -1);
        }
    }

    private static void fullTable() {
        Twin.changesNothing("variable(0), full", Scene::makeWithFullNodes, x -> x.variable(0), -1);
        Twin.changesNothing("variable(15), full", Scene::makeWithFullNodes, x -> x.variable(15), -1);
    }

    private static void noVariableInAFullTable() {
        for (int k : Outside.SIXTEEN) {
            Twin.changesNothing("variable(" + k + "), full", Scene::makeWithFullNodes, x -> x.variable(k), -1);
        }
    }

    private static void theLastPlace() {
        for (int cap : new int[] {8, 9, 31, 32}) {
            ObjectCalculus x = new ObjectCalculus(cap, 8);
            for (int n = 0; n < cap - 1; n++) {
                x.object(1);
            }
            Due.is("the last place of " + cap, x.variable(0), cap - 1);
            Due.is("a node behind it", x.variable(0), -1);
        }
    }

    /** An int is a node id exactly when it lies in 0..count-1. */
    private static void notYetANode() {
        ObjectCalculus x = new ObjectCalculus(8, 8);
        for (int n = 0; n < 8; n++) {
            Due.is("check before there is a node " + n, x.check(n), ObjectCalculus.CK_BAD_ROOT);
            Due.is("run before there is a node " + n, x.run(n, 1), ObjectCalculus.RUN_BAD_ROOT);
            Due.is("variable(0)", x.variable(0), n);
            Due.is("check of the node " + n, x.check(n), ObjectCalculus.CK_UNBOUND);
            Due.is("run of the node " + n, x.run(n, 1), ObjectCalculus.RUN_OPEN);
        }
    }

    private static void idsInCreationOrder() {
        ObjectCalculus x = new ObjectCalculus(32, 8);
        for (int n = 0; n < 32; n += 4) {
            Due.is("a variable", x.variable(0), n);
            Due.is("an object", x.object(1), n + 1);
            Due.is("a select", x.select(n, 0), n + 2);
            Due.is("an update", x.update(n + 1, 0, 1, n + 2), n + 3);
        }
    }

    /** Nodes are never removed or rewritten, however many others there come to be. */
    private static void nodesStay() {
        List<Twin.Part> parts = List.of(Twin::sceneTerms, VariableTest::sceneParents);
        Twin.keeps("nodes until the table is full", Scene::make, VariableTest::fillBesideTheScene, -1, parts);
    }

    /** Nodes of each kind that take no child from the scene; answers what one more node gets. */
    private static int fillBesideTheScene(ObjectCalculus x) {
        for (int i = 0; i < 5; i++) {
            int a = i % 2 == 0 ? x.variable(i) : x.object(i % Scene.TYPES);
            int b = x.object(ObjectCalculus.TOP);
            x.addMethod(b, i, a);
            int c = x.variable(15);
            x.update(b, i, i % Scene.TYPES, c);
        }
        return x.variable(0);
    }

    private static Map<String, Integer> sceneParents(ObjectCalculus x) {
        Map<String, Integer> answers = new TreeMap<>();
        for (int n = 0; n < Scene.NODES; n++) {
            answers.put("nodeParent(" + n + ")", x.nodeParent(n));
        }
        return answers;
    }

    private static void newVariable() {
        ObjectCalculus x = Scene.make();
        for (int k = 0; k <= 15; k++) {
            int v = x.variable(k);
            Due.is("variable(" + k + ") has no parent", x.nodeParent(v), -1);
        }
    }

    private static void indicesCountFromTheInnermost() {
        for (int k = 0; k < 4; k++) {
            ObjectCalculus x = new ObjectCalculus(32, 32);
            int n = x.variable(k);
            int[] types = {-1, -1, -1};
            for (int i = 0; i < 3; i++) {
                types[i] = x.extendType(1, i, 0);
                int o = x.object(types[i]);
                x.addMethod(o, i, n);
                n = x.select(o, i);
            }
            // Every body passes as TOP, so it is the run that tells which binder the index meant.
            Due.is("variable " + k + " under three binders", x.check(n) >= 0, k < 3);
            Due.is("variable " + k + " runs under three binders", x.run(n, 9), k < 3 ? 0 : 7);
            Due.is("the object that variable " + k + " names", x.resultType(), k < 3 ? types[k] : -1);
        }
    }

    private static void leavesTheRestAlone() {
        List<Twin.Part> parts = List.of(Twin::types, Twin::parents, Twin::errorNode, Twin::result, Twin::sceneTerms);
        Twin.keeps("variable(0)", Scene::make, x -> x.variable(0), Scene.NODES, parts);
        Twin.keeps("variable(15)", Scene::make, x -> x.variable(15), Scene.NODES, parts);
    }
}
