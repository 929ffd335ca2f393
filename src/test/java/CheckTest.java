/** Promise 11. */
public final class CheckTest {
    public static void main(String[] args) {
        badRoot();
        variables();
        selects();
        updates();
        updateOrder();
        literals();
        literalOrder();
        subTerms();
        annotationNotReceiver();
        theGreatestTerm();
        Due.end();
    }

    private static void due(String name, ObjectCalculus x, int root, int answer, int errorNode) {
        Due.is(name, x.check(root), answer);
        Due.is(name + ", errorNode()", x.errorNode(), errorNode);
    }

    private static void badRoot() {
        ObjectCalculus x = new ObjectCalculus(8, 8);
        int v = x.variable(0);
        for (int r : new int[] {-1, 1, 8, 32, Integer.MIN_VALUE, Integer.MAX_VALUE}) {
            due("check of a variable", x, v, ObjectCalculus.CK_UNBOUND, v);
            due("check(" + r + ")", x, r, ObjectCalculus.CK_BAD_ROOT, -1);
        }
        int o = x.object(1);
        due("check of a variable", x, v, ObjectCalculus.CK_UNBOUND, v);
        due("a success clears the error node", x, o, 1, -1);
    }

    private static void variables() {
        ObjectCalculus x = new ObjectCalculus(16, 16);
        int outer = x.extendType(1, 0, 0);
        int inner = x.extendType(1, 1, outer);
        int v = x.variable(1);
        int o = x.object(inner);
        x.addMethod(o, 1, v);
        int p = x.object(outer);
        x.addMethod(p, 0, o);
        due("variable 1 has the type of the outer binder", x, p, outer, -1);
        due("variable 1 is unbound in the inner object", x, o, ObjectCalculus.CK_UNBOUND, v);
        due("a variable as root, though it has parents", x, v, ObjectCalculus.CK_UNBOUND, v);
        int w = x.variable(0);
        int q = x.object(inner);
        x.addMethod(q, 1, w);
        due("variable 0 has the type of the inner binder", x, q, ObjectCalculus.CK_BODY, q);
        int b = x.variable(1);
        int far = x.object(outer);
        x.addMethod(far, 0, b);
        due("variable 1 under one binder", x, far, ObjectCalculus.CK_UNBOUND, b);
    }

    private static void selects() {
        ObjectCalculus x = new ObjectCalculus(32, 16);
        int t = x.extendType(1, 0, 0);
        t = x.extendType(t, 1, 1);
        int a = x.object(1);
        int b = x.object(1);
        int o = x.object(t);
        x.addMethod(o, 0, a);
        x.addMethod(o, 1, b);
        int s = x.select(o, 0);
        due("a member of type TOP", x, s, 0, -1);
        int s2 = x.select(s, 0);
        due("select on TOP", x, s2, ObjectCalculus.CK_NOT_OBJECT, s2);
        int s3 = x.select(s2, 1);
        due("the first error stands", x, s3, ObjectCalculus.CK_NOT_OBJECT, s2);
        int e = x.object(1);
        int s4 = x.select(e, 0);
        due("select of a missing label", x, s4, ObjectCalculus.CK_NO_LABEL, s4);
    }

    /** An update term on [0=EMPTY, 1=EMPTY] with the given annotation and body. */
    private static int updateTerm(ObjectCalculus x, int literal, int label, int type, int body) {
        int a = x.object(1);
        int b = x.object(1);
        int o = x.object(literal);
        x.addMethod(o, 0, a);
        x.addMethod(o, 1, b);
        return x.update(o, label, type, body);
    }

    private static void updates() {
        ObjectCalculus x = new ObjectCalculus(32, 16);
        int wide = x.extendType(1, 0, 1);
        int both = x.extendType(wide, 1, 1);
        int top0 = x.extendType(1, 0, 0);
        int mixed = x.extendType(top0, 1, 1);
        int u = updateTerm(x, both, 0, wide, x.variable(0));
        due("an update at a supertype", x, u, wide, -1);
        u = updateTerm(x, both, 0, both, x.variable(0));
        due("an update at the receiver's type", x, u, both, -1);
        u = updateTerm(x, mixed, 0, both, x.variable(0));
        due("a receiver with another member type", x, u, ObjectCalculus.CK_RECEIVER, u);
        u = updateTerm(x, both, 0, 0, x.variable(0));
        due("an update at TOP", x, u, ObjectCalculus.CK_NOT_OBJECT, u);
        u = updateTerm(x, both, 1, wide, x.variable(0));
        due("a label that only the receiver has", x, u, ObjectCalculus.CK_NO_LABEL, u);
        x = new ObjectCalculus(32, 16);
        wide = x.extendType(1, 0, 1);
        both = x.extendType(wide, 1, 1);
        top0 = x.extendType(1, 0, 0);
        mixed = x.extendType(top0, 1, 1);
        int s = x.select(x.variable(0), 0);
        u = updateTerm(x, mixed, 1, mixed, s);
        due("a body of type TOP for EMPTY", x, u, ObjectCalculus.CK_BODY, u);
        int v = x.variable(1);
        u = updateTerm(x, both, 0, both, v);
        due("an unbound variable in the body", x, u, ObjectCalculus.CK_UNBOUND, v);
        v = x.variable(0);
        u = x.update(v, 0, both, x.object(1));
        due("the receiver is not under the binder", x, u, ObjectCalculus.CK_UNBOUND, v);
        v = x.variable(1);
        s = x.select(v, 1);
        u = updateTerm(x, both, 0, wide, s);
        int o = x.object(top0);
        x.addMethod(o, 0, u);
        due("select in a body sees the outer type", x, o, ObjectCalculus.CK_NO_LABEL, s);
    }

    private static void updateOrder() {
        ObjectCalculus x = new ObjectCalculus(32, 16);
        int t = x.extendType(1, 0, 1);
        int v = x.variable(0);
        int u = x.update(v, 0, 0, x.variable(9));
        due("the receiver goes before the annotation TOP", x, u, ObjectCalculus.CK_UNBOUND, v);
        v = x.variable(0);
        u = x.update(v, 5, t, x.variable(9));
        due("the receiver goes before the label", x, u, ObjectCalculus.CK_UNBOUND, v);
        u = x.update(x.object(1), 5, 0, x.variable(9));
        due("the annotation TOP goes before the label", x, u, ObjectCalculus.CK_NOT_OBJECT, u);
        u = x.update(x.object(1), 5, t, x.variable(9));
        due("the label goes before the receiver's type", x, u, ObjectCalculus.CK_NO_LABEL, u);
        u = x.update(x.object(1), 0, t, x.variable(9));
        due("the receiver's type goes before the body", x, u, ObjectCalculus.CK_RECEIVER, u);
        int body = x.object(0);
        int e = x.object(1);
        int o = x.object(t);
        x.addMethod(o, 0, e);
        u = x.update(o, 0, t, body);
        due("the body's own error stands", x, u, ObjectCalculus.CK_NOT_OBJECT, body);
    }

    private static void literals() {
        ObjectCalculus x = new ObjectCalculus(32, 16);
        int t = x.extendType(1, 3, 1);
        int two = x.extendType(t, 4, 0);
        int o = x.object(0);
        due("a literal at TOP", x, o, ObjectCalculus.CK_NOT_OBJECT, o);
        o = x.object(1);
        due("the empty literal", x, o, 1, -1);
        o = x.object(t);
        due("a missing method", x, o, ObjectCalculus.CK_LABELS, o);
        int v = x.variable(0);
        o = x.object(1);
        x.addMethod(o, 3, v);
        due("one method too many", x, o, ObjectCalculus.CK_LABELS, o);
        v = x.variable(0);
        o = x.object(t);
        x.addMethod(o, 4, v);
        due("another label", x, o, ObjectCalculus.CK_LABELS, o);
        v = x.variable(0);
        o = x.object(t);
        x.addMethod(o, 3, v);
        due("a body of a subtype", x, o, t, -1);
        v = x.variable(0);
        int w = x.variable(0);
        o = x.object(two);
        x.addMethod(o, 4, v);
        due("one of two methods", x, o, ObjectCalculus.CK_LABELS, o);
        x.addMethod(o, 3, w);
        due("two methods in another order than the type's", x, o, two, -1);
        int s = x.select(x.variable(0), 4);
        int e = x.object(1);
        o = x.object(two);
        x.addMethod(o, 3, s);
        x.addMethod(o, 4, e);
        due("TOP does not fit EMPTY", x, o, ObjectCalculus.CK_BODY, o);
    }

    private static void literalOrder() {
        ObjectCalculus x = new ObjectCalculus(32, 16);
        int a = x.extendType(1, 0, 1);
        int t = x.extendType(a, 1, a);
        int v = x.variable(9);
        int o = x.object(a);
        x.addMethod(o, 1, v);
        due("the labels go before the bodies", x, o, ObjectCalculus.CK_LABELS, o);
        v = x.variable(9);
        o = x.object(0);
        x.addMethod(o, 1, v);
        due("the annotation TOP goes before the bodies", x, o, ObjectCalculus.CK_NOT_OBJECT, o);
        int e = x.object(1);
        v = x.variable(9);
        o = x.object(t);
        x.addMethod(o, 1, e);
        x.addMethod(o, 0, v);
        due("the first body's test goes before the second body", x, o, ObjectCalculus.CK_BODY, o);
        e = x.object(1);
        v = x.variable(9);
        o = x.object(t);
        x.addMethod(o, 0, v);
        x.addMethod(o, 1, e);
        due("the first body's error goes before the second's test", x, o, ObjectCalculus.CK_UNBOUND, v);
        int first = x.variable(0);
        int second = x.variable(9);
        o = x.object(t);
        x.addMethod(o, 1, first);
        due("labels are tested as they stand", x, o, ObjectCalculus.CK_LABELS, o);
        x.addMethod(o, 0, second);
        due("the second body's error", x, o, ObjectCalculus.CK_UNBOUND, second);
    }

    private static void subTerms() {
        ObjectCalculus x = new ObjectCalculus(32, 16);
        int t = x.extendType(1, 0, 1);
        int e = x.object(1);
        int o = x.object(t);
        x.addMethod(o, 0, e);
        int bad = x.object(0);
        int u = x.update(o, 0, t, bad);
        x.run(o, 5);
        due("the whole fails", x, u, ObjectCalculus.CK_NOT_OBJECT, bad);
        due("a sound part of it passes, though it has a parent", x, o, t, -1);
        due("a part of the part", x, e, 1, -1);
        Due.is("check keeps the result", x.resultType(), t);
        Due.is("check keeps resultBody", x.resultBody(0), e);
        Due.is("check keeps objectsCreated()", x.objectsCreated(), 1);
        Due.is("check keeps parents", x.nodeParent(o), u);
        x.check(bad);
        x.run(o, 5);
        x.run(-1, 5);
        Due.is("run keeps errorNode()", x.errorNode(), bad);
    }

    private static void annotationNotReceiver() {
        ObjectCalculus x = new ObjectCalculus(32, 16);
        int wide = x.extendType(1, 0, 1);
        int both = x.extendType(wide, 1, 1);
        int u = updateTerm(x, both, 0, wide, x.object(1));
        int s = x.select(u, 1);
        due("an update forgets what its annotation lacks", x, s, ObjectCalculus.CK_NO_LABEL, s);
    }

    /** All 32 nodes in one chain, with as many binders as fit. */
    private static void theGreatestTerm() {
        ObjectCalculus x = new ObjectCalculus(32, 32);
        int t = x.extendType(1, 0, 0);
        int n = x.variable(15);
        for (int i = 1; i < 32; i++) {
            int o = x.object(t);
            x.addMethod(o, 0, n);
            n = o;
        }
        due("31 binders around one variable", x, n, t, -1);
        due("16 binders around variable 15", x, 16, t, -1);
        due("15 binders around variable 15", x, 15, ObjectCalculus.CK_UNBOUND, 0);
        x = new ObjectCalculus(32, 32);
        int w = x.extendType(1, 0, 1);
        int e = x.object(1);
        n = x.object(w);
        x.addMethod(n, 0, e);
        for (int i = 0; i < 15; i++) {
            int body = x.variable(0);
            n = x.update(n, 0, w, body);
        }
        due("15 updates in one another", x, n, w, -1);
    }
}
