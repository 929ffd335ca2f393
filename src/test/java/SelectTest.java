/** Promise 8. */
public final class SelectTest {
    public static void main(String[] args) {
        ObjectCalculus x = new ObjectCalculus(8, 8);
        int o = x.object(1);
        int v = x.variable(0);
        int[] noLabel = {-1, 16, Integer.MIN_VALUE, Integer.MAX_VALUE};
        for (int l : noLabel) {
            Due.is("select(o, " + l + ")", x.select(o, l), -1);
        }
        int[] noNode = {-1, 2, 7, 8, 32, Integer.MIN_VALUE, Integer.MAX_VALUE};
        for (int n : noNode) {
            Due.is("select(" + n + ", 0)", x.select(n, 0), -1);
        }
        Due.is("refusals set no parent", x.nodeParent(o), -1);
        int s = x.select(o, 0);
        Due.is("select(o, 0)", s, 2);
        Due.is("nodeParent(o)", x.nodeParent(o), s);
        Due.is("a new select has no parent", x.nodeParent(s), -1);
        Due.is("select of a node with a parent", x.select(o, 0), -1);
        Due.is("select(s, 15)", x.select(s, 15), 3);
        Due.is("select(v, 15)", x.select(v, 15), 4);
        Due.is("nodeParent(o) stays", x.nodeParent(o), s);
        for (int n = 5; n < 8; n++) {
            x.object(1);
        }
        Due.is("select in a full table", x.select(7, 0), -1);
        Due.is("it set no parent", x.nodeParent(7), -1);
        Due.is("types stay", x.extendType(1, 0, 1), 2);
        labelAndReceiver();
        Due.end();
    }

    private static void labelAndReceiver() {
        for (int l = 0; l < 16; l++) {
            ObjectCalculus x = new ObjectCalculus(8, 8);
            int t = x.extendType(1, l, 0);
            int b = x.object(1);
            int o = x.object(t);
            x.addMethod(o, l, b);
            int s = x.select(o, l);
            Due.is("check of select " + l, x.check(s), 0);
            Due.is("run of select " + l, x.run(s, 1), 0);
            Due.is("result of select " + l, x.resultType(), 1);
            Due.is("errorNode() of select " + l, x.errorNode(), -1);
        }
    }
}
