/** Promise 10. */
public final class NodeParentTest {
    public static void main(String[] args) {
        ObjectCalculus x = new ObjectCalculus(8, 8);
        int b = x.variable(0);
        int c = x.variable(0);
        int o = x.object(1);
        x.addMethod(o, 1, b);
        int s = x.select(c, 0);
        int u = x.update(o, 1, 1, s);
        int loose = x.object(1);
        int[] due = {o, s, u, u, -1, -1};
        for (int round = 0; round < 2; round++) {
            for (int n = 0; n < due.length; n++) {
                Due.is("nodeParent(" + n + ")", x.nodeParent(n), due[n]);
            }
            for (int n : new int[] {-1, 6, 7, 8, 31, 32, Integer.MIN_VALUE, Integer.MAX_VALUE}) {
                Due.is("nodeParent(" + n + ")", x.nodeParent(n), -1);
            }
            x.check(u);
            x.run(u, 9);
        }
        Due.is("reading changes nothing", x.select(loose, 0), 6);
        Due.end();
    }
}
