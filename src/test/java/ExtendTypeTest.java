/** Promise 2. */
public final class ExtendTypeTest {
    public static void main(String[] args) {
        ordinary();
        anyOrderGivesOneId();
        refusals();
        eightLabels();
        fullTable();
        leavesTheRestAlone();
        Due.end();
    }

    private static void ordinary() {
        ObjectCalculus x = new ObjectCalculus(8, 32);
        Due.is("[0:EMPTY]", x.extendType(1, 0, 1), 2);
        Due.is("[0:TOP]", x.extendType(1, 0, 0), 3);
        Due.is("[15:[0:EMPTY]]", x.extendType(1, 15, 2), 4);
        Due.is("[0:EMPTY] again", x.extendType(1, 0, 1), 2);
        Due.is("[0:TOP] again", x.extendType(1, 0, 0), 3);
        Due.is("[0:EMPTY, 15:[0:TOP]]", x.extendType(2, 15, 3), 5);
        Due.is("typeMember(5, 0)", x.typeMember(5, 0), 1);
        Due.is("typeMember(5, 15)", x.typeMember(5, 15), 3);
        Due.is("[0:EMPTY] keeps its labels", x.typeMember(2, 15), -1);
        Due.is("EMPTY keeps its labels", x.typeMember(1, 0), -1);
        Due.is("same labels, another member", x.extendType(3, 15, 3), 6);
    }

    private static void anyOrderGivesOneId() {
        int[][] orders = {{3, 7, 9}, {3, 9, 7}, {7, 3, 9}, {7, 9, 3}, {9, 3, 7}, {9, 7, 3}};
        ObjectCalculus x = new ObjectCalculus(8, 32);
        int first = -1;
        for (int[] order : orders) {
            int t = 1;
            for (int label : order) {
                t = x.extendType(t, label, label == 7 ? 0 : 1);
            }
            first = first < 0 ? t : first;
            Due.is("[3:EMPTY, 7:TOP, 9:EMPTY] in another order", t, first);
        }
        Due.is("count after all orders", x.extendType(1, 0, 1), 9);
    }

    private static void refusals() {
        ObjectCalculus x = new ObjectCalculus(8, 32);
        x.extendType(1, 0, 1);
        int[] noType = {-1, 3, 4, 31, 32, 33, 512, Integer.MIN_VALUE, Integer.MAX_VALUE};
        for (int t : noType) {
            Due.is("extendType(" + t + ", 1, 1)", x.extendType(t, 1, 1), -1);
            Due.is("extendType(1, 1, " + t + ")", x.extendType(1, 1, t), -1);
        }
        int[] noLabel = {-1, -16, 16, 17, Integer.MIN_VALUE, Integer.MAX_VALUE};
        for (int label : noLabel) {
            Due.is("extendType(2, " + label + ", 1)", x.extendType(2, label, 1), -1);
        }
        Due.is("extendType(TOP, 1, 1)", x.extendType(0, 1, 1), -1);
        Due.is("a label t has, same member", x.extendType(2, 0, 1), -1);
        Due.is("a label t has, another member", x.extendType(2, 0, 0), -1);
        Due.is("a type as its own member", x.extendType(1, 0, 3), -1);
        Due.is("refusals added nothing", x.extendType(1, 1, 1), 3);
    }

    private static void eightLabels() {
        ObjectCalculus x = new ObjectCalculus(8, 32);
        int t = 1;
        for (int i = 0; i < 8; i++) {
            t = x.extendType(t, 2 * i, 1);
            Due.is("label " + (i + 1) + " of 8", t, i + 2);
        }
        Due.is("a ninth label", x.extendType(t, 1, 1), -1);
        Due.is("a ninth label, 15", x.extendType(t, 15, 0), -1);
        Due.is("refusals added nothing", x.extendType(1, 1, 1), 10);
    }

    private static void fullTable() {
        ObjectCalculus x = new ObjectCalculus(8, 8);
        for (int i = 0; i < 5; i++) {
            x.extendType(1, i, 1);
        }
        Due.is("the last place", x.extendType(2, 1, 1), 7);
        Due.is("a new type in a full table", x.extendType(2, 2, 1), -1);
        Due.is("a known type in a full table", x.extendType(3, 0, 1), 7);
        Due.is("a known type of one label in a full table", x.extendType(1, 4, 1), 6);
        Due.is("id 8 is no type", x.isSubtype(8, 0), false);
    }

    private static void leavesTheRestAlone() {
        ObjectCalculus x = new ObjectCalculus(8, 8);
        int v = x.variable(3);
        x.check(v);
        int o = x.object(1);
        int s = x.select(o, 2);
        int p = x.object(1);
        x.run(p, 1);
        x.extendType(1, 0, 1);
        x.extendType(1, 0, 7);
        Due.is("errorNode() after extendType", x.errorNode(), v);
        Due.is("resultType() after extendType", x.resultType(), 1);
        Due.is("objectsCreated() after extendType", x.objectsCreated(), 1);
        Due.is("nodeParent(o) after extendType", x.nodeParent(o), s);
        Due.is("the next node after extendType", x.variable(0), 4);
    }
}
