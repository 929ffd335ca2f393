/** Promise 6. */
public final class ObjectTest {
    public static void main(String[] args) {
        ObjectCalculus x = new ObjectCalculus(8, 8);
        int t = x.extendType(1, 4, 1);
        int[] noType = {-1, 3, 7, 8, 32, Integer.MIN_VALUE, Integer.MAX_VALUE};
        for (int wrong : noType) {
            Due.is("object(" + wrong + ")", x.object(wrong), -1);
        }
        Due.is("object(EMPTY)", x.object(1), 0);
        Due.is("object(TOP)", x.object(0), 1);
        Due.is("object(t)", x.object(t), 2);
        for (int n = 0; n < 3; n++) {
            Due.is("a new object has no parent", x.nodeParent(n), -1);
            Due.is("run(object, 0)", x.run(n, 0), ObjectCalculus.RUN_VALUE);
            Due.is("its annotation", x.resultType(), n == 0 ? 1 : n == 1 ? 0 : t);
            for (int l = 0; l < 16; l++) {
                Due.is("a new object has no method " + l, x.resultBody(l), -1);
            }
        }
        Due.is("check(object(EMPTY))", x.check(0), 1);
        Due.is("check(object(TOP))", x.check(1), ObjectCalculus.CK_NOT_OBJECT);
        Due.is("check(object(t)) without methods", x.check(2), ObjectCalculus.CK_LABELS);
        for (int n = 3; n < 8; n++) {
            Due.is("object(EMPTY)", x.object(1), n);
        }
        Due.is("object in a full table", x.object(1), -1);
        Due.is("errorNode() after object", x.errorNode(), 2);
        Due.is("resultType() after object", x.resultType(), t);
        Due.is("objectsCreated() after object", x.objectsCreated(), 1);
        Due.is("types stay", x.extendType(1, 0, 1), 3);
        Due.end();
    }
}
