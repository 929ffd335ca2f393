/** Promise 10. */
public final class NodeParentTest {
    public static void main(String[] args) {
        parents();
        noParent();
        noNode();
        noNodeInAFullTable();
        changesNothing();
        Due.end();
    }

    private static void due(ObjectCalculus x, int n, int want) {
        Due.is("nodeParent(" + n + ")", x.nodeParent(n), want);
    }

    private static void parents() {
        ObjectCalculus x = new ObjectCalculus(8, 8);
        int b = x.variable(0);
        int c = x.variable(0);
        int o = x.object(1);
        x.addMethod(o, 1, b);
        int s = x.select(c, 0);
        int u = x.update(o, 1, 1, s);
        for (int round = 0; round < 2; round++) {
            due(x, b, o);
            due(x, c, s);
            due(x, o, u);
            due(x, s, u);
            x.check(u);
            x.run(u, 9);
        }
    }

    private static void noParent() {
        ObjectCalculus x = Scene.make();
        for (int n : new int[] {Scene.SEL, Scene.UPD, Scene.VAR, Scene.EMPTY_OBJ, Scene.OBJ, Scene.LATE_VAR}) {
            due(x, n, -1);
        }
    }

    private static void noNode() {
        ObjectCalculus fresh = new ObjectCalculus(8, 8);
        for (int n : Outside.of(0)) {
            due(fresh, n, -1);
        }
        ObjectCalculus x = Scene.make();
        for (int n : Outside.of(Scene.NODES)) {
            due(x, n, -1);
        }
    }

    private static void noNodeInAFullTable() {
        ObjectCalculus x = new ObjectCalculus(32, 8);
        int n = x.variable(0);
        for (int i = 1; i < 32; i++) {
            n = x.select(n, 0);
        }
        due(x, 0, 1);
        due(x, 30, 31);
        due(x, 31, -1);
        for (int wrong : Outside.of(32)) {
            due(x, wrong, -1);
        }
    }

    private static void changesNothing() {
        Twin.changesNothing("nodeParent(TAKEN_OBJ)", Scene::make, x -> x.nodeParent(Scene.TAKEN_OBJ), Scene.SEL);
        for (int n : new int[] {Scene.OBJ, -1, Scene.NODES, Integer.MIN_VALUE, Integer.MAX_VALUE}) {
            Twin.changesNothing("nodeParent(" + n + ")", Scene::make, x -> x.nodeParent(n), -1);
        }
    }
}
