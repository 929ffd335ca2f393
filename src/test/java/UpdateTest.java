/** Promise 9. */
public final class UpdateTest {
    public static void main(String[] args) {
        ObjectCalculus x = new ObjectCalculus(8, 8);
        int t = x.extendType(1, 0, 1);
        int o = x.object(t);
        int b = x.variable(0);
        int[] noLabel = {-1, 16, Integer.MIN_VALUE, Integer.MAX_VALUE};
        for (int l : noLabel) {
            Due.is("update(o, " + l + ", t, b)", x.update(o, l, t, b), -1);
        }
        int[] noNode = {-1, 2, 7, 8, 32, Integer.MIN_VALUE, Integer.MAX_VALUE};
        for (int n : noNode) {
            Due.is("update(" + n + ", 0, t, b)", x.update(n, 0, t, b), -1);
            Due.is("update(o, 0, t, " + n + ")", x.update(o, 0, t, n), -1);
        }
        int[] noType = {-1, 3, 7, 8, Integer.MIN_VALUE, Integer.MAX_VALUE};
        for (int type : noType) {
            Due.is("update(o, 0, " + type + ", b)", x.update(o, 0, type, b), -1);
        }
        Due.is("update(o, 0, t, o)", x.update(o, 0, t, o), -1);
        Due.is("refusals set no parent of o", x.nodeParent(o), -1);
        Due.is("refusals set no parent of b", x.nodeParent(b), -1);
        int u = x.update(o, 0, t, b);
        Due.is("update(o, 0, t, b)", u, 2);
        Due.is("nodeParent(o)", x.nodeParent(o), u);
        Due.is("nodeParent(b)", x.nodeParent(b), u);
        Due.is("a new update has no parent", x.nodeParent(u), -1);
        int c = x.variable(0);
        Due.is("a receiver with a parent", x.update(o, 0, t, c), -1);
        Due.is("a body with a parent", x.update(c, 0, t, b), -1);
        Due.is("nodeParent(c)", x.nodeParent(c), -1);
        Due.is("annotation TOP, label 15, the body before the receiver", x.update(c, 15, 0, u), 4);
        Due.is("nodeParent(u)", x.nodeParent(u), 4);
        for (int n = 5; n < 8; n++) {
            x.object(1);
        }
        Due.is("update in a full table", x.update(6, 0, t, 7), -1);
        Due.is("it set no parent of the receiver", x.nodeParent(6), -1);
        Due.is("it set no parent of the body", x.nodeParent(7), -1);
        Due.is("types stay", x.extendType(1, 1, 1), 3);
        Due.end();
    }
}
