/** Promise 5. */
public final class VariableTest {
    public static void main(String[] args) {
        int[] noVariable = {-1, 16, 17, Integer.MIN_VALUE, Integer.MAX_VALUE};
        ObjectCalculus x = new ObjectCalculus(17, 8);
        for (int k = 0; k <= 15; k++) {
            for (int wrong : noVariable) {
                Due.is("variable(" + wrong + ")", x.variable(wrong), -1);
            }
            Due.is("nodeParent before it is a node", x.nodeParent(k), -1);
            Due.is("check before it is a node", x.check(k), ObjectCalculus.CK_BAD_ROOT);
            Due.is("variable(" + k + ")", x.variable(k), k);
            Due.is("a new variable has no parent", x.nodeParent(k), -1);
            Due.is("check of a lone variable", x.check(k), ObjectCalculus.CK_UNBOUND);
            Due.is("run of a lone variable", x.run(k, 1), ObjectCalculus.RUN_OPEN);
        }
        Due.is("the last place", x.variable(0), 16);
        Due.is("variable in a full table", x.variable(0), -1);
        Due.is("types stay", x.extendType(1, 0, 1), 2);
        indicesCountFromTheInnermost();
        leavesTheRestAlone();
        Due.end();
    }

    private static void indicesCountFromTheInnermost() {
        for (int k = 0; k < 4; k++) {
            ObjectCalculus x = new ObjectCalculus(32, 32);
            int n = x.variable(k);
            int[] types = {-1, -1, -1};
            for (int i = 0; i < 3; i++) {
                types[i] = x.extendType(1, i, 0);
                int o = x.object(types[i]);
                x.addMethod(o, i, n);
                n = x.select(o, i);
            }
            // Every body passes as TOP, so it is the run that tells which binder the index meant.
            Due.is("variable " + k + " under three binders", x.check(n) >= 0, k < 3);
            Due.is("variable " + k + " runs under three binders", x.run(n, 9), k < 3 ? 0 : 7);
            Due.is("the object that variable " + k + " names", x.resultType(), k < 3 ? types[k] : -1);
        }
    }

    private static void leavesTheRestAlone() {
        ObjectCalculus x = new ObjectCalculus(8, 8);
        int v = x.variable(3);
        x.check(v);
        int o = x.object(1);
        x.run(o, 1);
        x.variable(0);
        x.variable(16);
        Due.is("errorNode() after variable", x.errorNode(), v);
        Due.is("resultType() after variable", x.resultType(), 1);
        Due.is("objectsCreated() after variable", x.objectsCreated(), 1);
        Due.is("fuelUsed() after variable", x.fuelUsed(), 0);
    }
}
