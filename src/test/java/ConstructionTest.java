/** Promise 1. */
public final class ConstructionTest {
    private static final int[] BELOW = {Integer.MIN_VALUE, Integer.MIN_VALUE + 1, -32, -8, -1, 0, 1, 7};
    private static final int[] ABOVE = {33, 34, 64, 256, 1 << 16, 1 << 28, Integer.MAX_VALUE - 1, Integer.MAX_VALUE};

    public static void main(String[] args) {
        belowEightBecomesEight();
        aboveThirtyTwoBecomesThirtyTwo();
        eightToThirtyTwoIsKept();
        bothOutside();
        topAndEmptyCount();
        freshTypes();
        freshNodes();
        freshErrorNode();
        freshResult();
        freshCounters();
        objectsStandApart();
        Due.end();
    }

    private static void belowEightBecomesEight() {
        for (int cap : BELOW) {
            capacities(cap, 20, 8, 20);
            capacities(20, cap, 20, 8);
        }
    }

    private static void aboveThirtyTwoBecomesThirtyTwo() {
        for (int cap : ABOVE) {
            capacities(cap, 20, 32, 20);
            capacities(20, cap, 20, 32);
        }
    }

    private static void eightToThirtyTwoIsKept() {
        for (int cap = 8; cap <= 32; cap++) {
            capacities(cap, 40 - cap, cap, 40 - cap);
        }
    }

    private static void bothOutside() {
        for (int low : BELOW) {
            for (int high : ABOVE) {
                capacities(low, high, 8, 32);
                capacities(high, low, 32, 8);
            }
        }
    }

    private static void capacities(int nodeCap, int typeCap, int nodes, int types) {
        String name = "ObjectCalculus(" + nodeCap + ", " + typeCap + ")";
        ObjectCalculus x = new ObjectCalculus(nodeCap, typeCap);
        for (int i = 0; i < nodes; i++) {
            Due.is(name + ", node " + i, x.variable(0), i);
        }
        Due.is(name + ", a variable too many", x.variable(0), -1);
        Due.is(name + ", an object too many", x.object(1), -1);
        Due.is(name + ", a select too many", x.select(0, 0), -1);
        Due.is(name + ", an update too many", x.update(0, 0, 1, 1), -1);
        for (int i = 2; i < types; i++) {
            Due.is(name + ", type " + i, x.extendType(1, 0, i - 1), i);
        }
        Due.is(name + ", a type too many", x.extendType(1, 0, types - 1), -1);
        Due.is(name + ", the last type", x.isSubtype(types - 1, types - 1), true);
        Due.is(name + ", no type behind it", x.isSubtype(types, types), false);
    }

    private static void topAndEmptyCount() {
        ObjectCalculus x = new ObjectCalculus(8, 8);
        for (int label = 0; label < 6; label++) {
            Due.is("type " + (label + 1) + " beside TOP and EMPTY", x.extendType(1, label, 1), label + 2);
        }
        Due.is("type 7 beside TOP and EMPTY", x.extendType(1, 6, 1), -1);
    }

    private static void freshTypes() {
        ObjectCalculus x = new ObjectCalculus(8, 8);
        Due.is("TOP is a type", x.isSubtype(0, 0), true);
        Due.is("EMPTY is a type", x.isSubtype(1, 1), true);
        Due.is("EMPTY <: TOP", x.isSubtype(1, 0), true);
        Due.is("TOP <: EMPTY", x.isSubtype(0, 1), false);
        for (int t : Outside.of(2)) {
            Due.is("a fresh isSubtype(" + t + ", itself)", x.isSubtype(t, t), false);
        }
        for (int l = -1; l <= 16; l++) {
            Due.is("a fresh typeMember(TOP, " + l + ")", x.typeMember(0, l), -1);
            Due.is("a fresh typeMember(EMPTY, " + l + ")", x.typeMember(1, l), -1);
        }
        Due.is("the first new type", x.extendType(1, 0, 1), 2);
    }

    private static void freshNodes() {
        ObjectCalculus x = new ObjectCalculus(8, 8);
        for (int n : Outside.of(0)) {
            Due.is("a fresh nodeParent(" + n + ")", x.nodeParent(n), -1);
            Due.is("a fresh check(" + n + ")", x.check(n), ObjectCalculus.CK_BAD_ROOT);
            Due.is("a fresh run(" + n + ", 9)", x.run(n, 9), ObjectCalculus.RUN_BAD_ROOT);
            Due.is("a fresh select(" + n + ", 0)", x.select(n, 0), -1);
            Due.is("a fresh update of " + n, x.update(n, 0, 1, n + 1), -1);
            Due.is("a fresh addMethod of " + n, x.addMethod(n, 0, n - 1), false);
        }
        Due.is("the first node", x.variable(0), 0);
    }

    private static void freshErrorNode() {
        Due.is("a fresh errorNode()", new ObjectCalculus(8, 8).errorNode(), -1);
    }

    private static void freshResult() {
        ObjectCalculus x = new ObjectCalculus(8, 8);
        Due.is("a fresh resultType()", x.resultType(), -1);
        for (int l = 0; l < 16; l++) {
            Due.is("a fresh resultBody(" + l + ")", x.resultBody(l), -1);
        }
        for (int l : Outside.SIXTEEN) {
            Due.is("a fresh resultBody(" + l + ")", x.resultBody(l), -1);
        }
    }

    private static void freshCounters() {
        ObjectCalculus x = new ObjectCalculus(8, 8);
        Due.is("a fresh fuelUsed()", x.fuelUsed(), 0);
        Due.is("a fresh objectsCreated()", x.objectsCreated(), 0);
    }

    private static void objectsStandApart() {
        Twin.changesNothing("the making of another object", () -> new ObjectCalculus(8, 8), x -> {
            Scene.make();
            return 0;
        }, 0);
    }
}
