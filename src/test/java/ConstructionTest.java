/** Promise 1. */
public final class ConstructionTest {
    public static void main(String[] args) {
        int[][] givenAndKept = {
            {Integer.MIN_VALUE, 8}, {-1, 8}, {0, 8}, {7, 8}, {8, 8}, {9, 9}, {20, 20},
            {31, 31}, {32, 32}, {33, 32}, {1000, 32}, {Integer.MAX_VALUE, 32}};
        for (int[] nodes : givenAndKept) {
            for (int[] types : givenAndKept) {
                ObjectCalculus x = new ObjectCalculus(nodes[0], types[0]);
                String name = "ObjectCalculus(" + nodes[0] + ", " + types[0] + ")";
                freshState(name, x);
                nodeCapacity(name, x, nodes[1]);
                typeCapacity(name, x, types[1]);
            }
        }
        objectsStandApart();
        Due.end();
    }

    private static void freshState(String name, ObjectCalculus x) {
        int[] ints = {Integer.MIN_VALUE, -1, 0, 1, 2, 15, 16, 31, 32, Integer.MAX_VALUE};
        Due.is(name + " errorNode()", x.errorNode(), -1);
        Due.is(name + " resultType()", x.resultType(), -1);
        Due.is(name + " fuelUsed()", x.fuelUsed(), 0);
        Due.is(name + " objectsCreated()", x.objectsCreated(), 0);
        for (int i : ints) {
            boolean isType = i == ObjectCalculus.TOP || i == ObjectCalculus.EMPTY;
            Due.is(name + " resultBody(" + i + ")", x.resultBody(i), -1);
            Due.is(name + " nodeParent(" + i + ")", x.nodeParent(i), -1);
            Due.is(name + " check(" + i + ")", x.check(i), ObjectCalculus.CK_BAD_ROOT);
            Due.is(name + " run(" + i + ", 9)", x.run(i, 9), ObjectCalculus.RUN_BAD_ROOT);
            Due.is(name + " select(" + i + ", 0)", x.select(i, 0), -1);
            Due.is(name + " isSubtype(i, i) of " + i, x.isSubtype(i, i), isType);
            Due.is(name + " typeMember(0, " + i + ")", x.typeMember(0, i), -1);
            Due.is(name + " typeMember(1, " + i + ")", x.typeMember(1, i), -1);
        }
        Due.is(name + " isSubtype(1, 0)", x.isSubtype(1, 0), true);
        Due.is(name + " isSubtype(0, 1)", x.isSubtype(0, 1), false);
    }

    private static void nodeCapacity(String name, ObjectCalculus x, int cap) {
        for (int i = 0; i < cap; i++) {
            Due.is(name + " node " + i, x.variable(0), i);
        }
        Due.is(name + " variable beyond the capacity", x.variable(0), -1);
        Due.is(name + " object beyond the capacity", x.object(1), -1);
    }

    private static void typeCapacity(String name, ObjectCalculus x, int cap) {
        for (int i = 2; i < cap; i++) {
            Due.is(name + " type " + i, x.extendType(1, 0, i - 1), i);
        }
        Due.is(name + " type beyond the capacity", x.extendType(1, 0, cap - 1), -1);
        Due.is(name + " isSubtype(cap, cap)", x.isSubtype(cap, cap), false);
    }

    private static void objectsStandApart() {
        ObjectCalculus x = new ObjectCalculus(8, 8);
        ObjectCalculus y = new ObjectCalculus(8, 8);
        x.object(1);
        x.extendType(1, 0, 1);
        x.run(0, 1);
        freshState("a second object", y);
    }
}
