import java.util.List;

/** Promise 6. */
public final class ObjectTest {
    public static void main(String[] args) {
        everyType();
        top();
        noType();
        fullTable();
        noTypeInAFullTable();
        theLastPlace();
        newObject();
        leavesTheRestAlone();
        Due.end();
    }

    private static void everyType() {
        ObjectCalculus x = Scene.make();
        for (int t = 0; t < Scene.TYPES; t++) {
            int o = x.object(t);
            Due.is("object(" + t + ")", o, Scene.NODES + t);
            Due.is("run of object(" + t + ")", x.run(o, 0), ObjectCalculus.RUN_VALUE);
            Due.is("the annotation of object(" + t + ")", x.resultType(), t);
        }
        x = Scene.makeWithFullTypes();
        Due.is("object of the last type", x.object(Scene.TYPES + 2), Scene.NODES);
    }

    private static void top() {
        ObjectCalculus x = new ObjectCalculus(8, 8);
        Due.is("object(TOP)", x.object(ObjectCalculus.TOP), 0);
        Due.is("check(object(TOP))", x.check(0), ObjectCalculus.CK_NOT_OBJECT);
        Due.is("run(object(TOP), 0)", x.run(0, 0), ObjectCalculus.RUN_VALUE);
        Due.is("its origin", x.resultType(), ObjectCalculus.TOP);
    }

    private static void noType() {
        for (int a : Outside.of(Scene.TYPES)) {
            Twin.changesNothing("object(" + a + ")", Scene::make, x -> x.object(a), -1);
        }
        for (int a : Outside.of(Scene.TYPES + 3)) {
            Twin.changesNothing("object(" + a + "), full types", Scene::makeWithFullTypes, x -> x.object(a), -1);
        }
    }

    private static void fullTable() {
        for (int a = 0; a < Scene.TYPES; a++) {
            int type = a;
            Twin.changesNothing("object(" + a + "), full", Scene::makeWithFullNodes, x -> x.object(type), -1);
        }
    }

    private static void noTypeInAFullTable() {
        for (int a : Outside.of(Scene.TYPES)) {
            Twin.changesNothing("object(" + a + "), full", Scene::makeWithFullNodes, x -> x.object(a), -1);
        }
    }

    private static void theLastPlace() {
        for (int cap : new int[] {8, 9, 31, 32}) {
            ObjectCalculus x = new ObjectCalculus(cap, 8);
            for (int n = 0; n < cap - 1; n++) {
                x.variable(0);
            }
            Due.is("the last place of " + cap, x.object(1), cap - 1);
            Due.is("a node behind it", x.object(1), -1);
        }
    }

    private static void newObject() {
        ObjectCalculus x = Scene.make();
        int o = x.object(Scene.TWO);
        Due.is("a new object has no parent", x.nodeParent(o), -1);
        Due.is("a new object lacks the labels of its type", x.check(o), ObjectCalculus.CK_LABELS);
        x.run(o, 0);
        for (int l = 0; l < 16; l++) {
            Due.is("a new object has no method " + l, x.resultBody(l), -1);
        }
    }

    private static void leavesTheRestAlone() {
        List<Twin.Part> parts = List.of(Twin::types, Twin::parents, Twin::errorNode, Twin::result, Twin::sceneTerms);
        Twin.keeps("object(EMPTY)", Scene::make, x -> x.object(1), Scene.NODES, parts);
        Twin.keeps("object(TOP)", Scene::make, x -> x.object(0), Scene.NODES, parts);
    }
}
