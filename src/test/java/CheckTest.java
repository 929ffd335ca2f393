import java.util.List;

/** Promise 11. */
public final class CheckTest {
    // The types of withTypes().
    private static final int ONE = 2;
    private static final int BOTH = 3;
    private static final int TOP0 = 4;
    private static final int MIXED = 5;

    public static void main(String[] args) {
        badRoot();
        errorNodeBeforeAnyCheck();
        errorNodeAfterAnError();
        errorNodeAfterASuccess();
        errorNodeAfterBadRoot();
        errorNodeOutlastsOtherCalls();
        readingTheErrorNodeChangesNothing();
        rootWithAParent();
        keepsTheRest();
        variables();
        variableAtTheEdge();
        selects();
        selectOrder();
        updates();
        updateAtTop();
        updateWithoutLabel();
        updateReceiver();
        updateBody();
        updateOrder();
        selfOfAnUpdate();
        literalAtTop();
        literalLabels();
        literalBody();
        literalOrder();
        eightMethods();
        annotationNotReceiver();
        subsumptionOnlyWhereStated();
        theGreatestTerm();
        Due.end();
    }

    private static void due(String name, ObjectCalculus x, int root, int answer, int errorNode) {
        Due.is(name, x.check(root), answer);
        Due.is(name + ", errorNode()", x.errorNode(), errorNode);
    }

    private static void badRoot() {
        ObjectCalculus x = new ObjectCalculus(8, 8);
        for (int r : Outside.of(0)) {
            due("check(" + r + ") without nodes", x, r, ObjectCalculus.CK_BAD_ROOT, -1);
        }
        x = Scene.make();
        for (int r : Outside.of(Scene.NODES)) {
            due("check(" + r + ")", x, r, ObjectCalculus.CK_BAD_ROOT, -1);
        }
        x = Scene.makeWithFullNodes();
        due("check behind a full table", x, Scene.NODES, ObjectCalculus.CK_BAD_ROOT, -1);
    }

    private static void errorNodeBeforeAnyCheck() {
        ObjectCalculus x = new ObjectCalculus(8, 8);
        Due.is("errorNode() at first", x.errorNode(), -1);
        int v = x.variable(0);
        int s = x.select(v, 0);
        int o = x.object(0);
        x.run(s, 1);
        x.run(o, 1);
        x.run(-1, 1);
        Due.is("errorNode() before any check", x.errorNode(), -1);
    }

    private static void errorNodeAfterAnError() {
        ObjectCalculus x = new ObjectCalculus(8, 8);
        int v = x.variable(0);
        int o = x.object(0);
        int p = x.object(1);
        int s = x.select(p, 7);
        due("the node 0 as error node", x, v, ObjectCalculus.CK_UNBOUND, v);
        due("another error node", x, o, ObjectCalculus.CK_NOT_OBJECT, o);
        due("a third one", x, s, ObjectCalculus.CK_NO_LABEL, s);
        due("the first again", x, v, ObjectCalculus.CK_UNBOUND, v);
    }

    private static void errorNodeAfterASuccess() {
        ObjectCalculus x = Scene.make();
        due("an error", x, Scene.OPEN_VAR, ObjectCalculus.CK_UNBOUND, Scene.OPEN_VAR);
        due("a success clears the error node", x, Scene.EMPTY_OBJ, 1, -1);
        due("a success after a success", x, Scene.UPD, Scene.ONE, -1);
    }

    private static void errorNodeAfterBadRoot() {
        ObjectCalculus x = Scene.make();
        for (int r : Outside.of(Scene.NODES)) {
            due("an error", x, Scene.OPEN_VAR, ObjectCalculus.CK_UNBOUND, Scene.OPEN_VAR);
            due("check(" + r + ") clears the error node", x, r, ObjectCalculus.CK_BAD_ROOT, -1);
        }
    }

    /** It is the last check that counts, whatever is called behind it. */
    private static void errorNodeOutlastsOtherCalls() {
        ObjectCalculus x = Scene.make();
        x.run(Scene.UPD, 5);
        x.run(-1, 5);
        x.run(Scene.OPEN_VAR, 5);
        x.extendType(1, 7, 1);
        x.addMethod(Scene.EMPTY_OBJ, 0, Scene.OPEN_VAR);
        x.select(Scene.EMPTY_OBJ, 0);
        x.resultBody(0);
        Due.is("errorNode() after other calls", x.errorNode(), Scene.OPEN_VAR);
        x.check(Scene.UPD);
        x.run(Scene.SEL, 0);
        Due.is("errorNode() after a success and other calls", x.errorNode(), -1);
    }

    private static void readingTheErrorNodeChangesNothing() {
        Twin.changesNothing("errorNode()", Scene::make, ObjectCalculus::errorNode, Scene.OPEN_VAR);
        Twin.changesNothing("a fresh errorNode()", () -> new ObjectCalculus(8, 8), ObjectCalculus::errorNode, -1);
    }

    /** The term r is checked as a closed one: what stands around r gives it no binder and no error. */
    private static void rootWithAParent() {
        ObjectCalculus x = new ObjectCalculus(32, 16);
        int t = x.extendType(1, 0, 1);
        int e = x.object(1);
        int v = x.variable(0);
        int o = x.object(t);
        x.addMethod(o, 0, e);
        int p = x.object(t);
        x.addMethod(p, 0, v);
        int bad = x.object(0);
        int u = x.update(o, 0, t, bad);
        int w = x.update(p, 0, t, u);
        due("the whole fails", x, w, ObjectCalculus.CK_NOT_OBJECT, bad);
        due("a part of it fails", x, u, ObjectCalculus.CK_NOT_OBJECT, bad);
        due("a sound receiver in it", x, o, t, -1);
        due("a sound body in it", x, e, 1, -1);
        due("a literal around a variable", x, p, t, -1);
        due("the variable itself", x, v, ObjectCalculus.CK_UNBOUND, v);
    }

    private static void keepsTheRest() {
        List<Twin.Part> parts = List.of(Twin::types, Twin::parents, Twin::result, Twin::terms, Twin::room);
        int[][] calls = {{Scene.UPD, Scene.ONE}, {Scene.OBJ, ObjectCalculus.CK_LABELS},
            {Scene.VAR, ObjectCalculus.CK_UNBOUND}, {-1, ObjectCalculus.CK_BAD_ROOT},
            {Scene.NODES, ObjectCalculus.CK_BAD_ROOT}, {Scene.TAKEN_OBJ, Scene.ONE}};
        for (int[] call : calls) {
            Twin.keeps("check(" + call[0] + ")", Scene::make, x -> x.check(call[0]), call[1], parts);
        }
    }

    private static void variables() {
        ObjectCalculus x = new ObjectCalculus(16, 16);
        int outer = x.extendType(1, 0, 0);
        int inner = x.extendType(1, 1, outer);
        int v = x.variable(1);
        int o = x.object(inner);
        x.addMethod(o, 1, v);
        int p = x.object(outer);
        x.addMethod(p, 0, o);
        due("variable 1 has the type of the outer binder", x, p, outer, -1);
        due("variable 1 is unbound in the inner object", x, o, ObjectCalculus.CK_UNBOUND, v);
        due("a variable as root, though it has parents", x, v, ObjectCalculus.CK_UNBOUND, v);
        int w = x.variable(0);
        int q = x.object(inner);
        x.addMethod(q, 1, w);
        due("variable 0 has the type of the inner binder", x, q, ObjectCalculus.CK_BODY, q);
        int b = x.variable(1);
        int far = x.object(outer);
        x.addMethod(far, 0, b);
        due("variable 1 under one binder", x, far, ObjectCalculus.CK_UNBOUND, b);
    }

    /** In the body of m binders the variable m - 1 is the last that is bound and m the first that is not. */
    private static void variableAtTheEdge() {
        for (int m = 0; m <= 16; m++) {
            for (int k = m == 0 ? 0 : m - 1; k <= m && k <= 15; k++) {
                ObjectCalculus x = new ObjectCalculus(32, 32);
                int v = x.variable(k);
                int n = v;
                int t = x.extendType(1, 0, 0);
                for (int i = 0; i < m; i++) {
                    int o = x.object(t);
                    x.addMethod(o, 0, n);
                    n = o;
                }
                String name = "variable " + k + " under " + m + " binders";
                due(name, x, n, k < m ? t : ObjectCalculus.CK_UNBOUND, k < m ? -1 : v);
            }
        }
    }

    private static void selects() {
        ObjectCalculus x = new ObjectCalculus(32, 16);
        int t = x.extendType(1, 0, 0);
        t = x.extendType(t, 15, 1);
        int a = x.object(1);
        int b = x.object(1);
        int o = x.object(t);
        x.addMethod(o, 0, a);
        x.addMethod(o, 15, b);
        int s = x.select(o, 0);
        due("a member of type TOP", x, s, 0, -1);
        int s2 = x.select(s, 0);
        due("select on TOP", x, s2, ObjectCalculus.CK_NOT_OBJECT, s2);
        int e = x.object(1);
        int s3 = x.select(e, 0);
        due("select of a missing label", x, s3, ObjectCalculus.CK_NO_LABEL, s3);
        a = x.object(1);
        b = x.object(1);
        o = x.object(t);
        x.addMethod(o, 0, a);
        x.addMethod(o, 15, b);
        s = x.select(o, 15);
        due("a member of type EMPTY", x, s, 1, -1);
    }

    private static void selectOrder() {
        ObjectCalculus x = new ObjectCalculus(32, 16);
        int bad = x.object(0);
        int s = x.select(bad, 0);
        due("the receiver's error goes first", x, s, ObjectCalculus.CK_NOT_OBJECT, bad);
        int e = x.object(1);
        int first = x.select(e, 3);
        int second = x.select(first, 4);
        due("the inner of two errors stands", x, second, ObjectCalculus.CK_NO_LABEL, first);
        int top = x.extendType(1, 0, 0);
        int v = x.variable(0);
        int o = x.object(top);
        x.addMethod(o, 0, v);
        s = x.select(x.select(o, 0), 9);
        due("TOP goes before the label", x, s, ObjectCalculus.CK_NOT_OBJECT, s);
    }

    /** [0:EMPTY], [0:EMPTY, 1:EMPTY], [0:TOP] and [0:TOP, 1:EMPTY] are the types 2 to 5. */
    private static ObjectCalculus withTypes() {
        ObjectCalculus x = new ObjectCalculus(32, 16);
        x.extendType(1, 0, 1);
        x.extendType(ONE, 1, 1);
        x.extendType(1, 0, 0);
        Due.is("the last type", x.extendType(TOP0, 1, 1), MIXED);
        return x;
    }

    /** An update of [0 = s(x) [], 1 = s(x) []] at the type literal. */
    private static int updateTerm(ObjectCalculus x, int literal, int label, int type, int body) {
        int a = x.object(1);
        int b = x.object(1);
        int o = x.object(literal);
        x.addMethod(o, 0, a);
        x.addMethod(o, 1, b);
        return x.update(o, label, type, body);
    }

    private static void updates() {
        ObjectCalculus x = withTypes();
        int u = updateTerm(x, BOTH, 0, ONE, x.variable(0));
        due("an update at a supertype", x, u, ONE, -1);
        u = updateTerm(x, BOTH, 0, BOTH, x.variable(0));
        due("an update at the receiver's type", x, u, BOTH, -1);
        u = updateTerm(x, BOTH, 1, BOTH, x.variable(0));
        due("an update of the other label", x, u, BOTH, -1);
    }

    private static void updateAtTop() {
        ObjectCalculus x = withTypes();
        int u = updateTerm(x, BOTH, 0, 0, x.variable(0));
        due("an update at TOP", x, u, ObjectCalculus.CK_NOT_OBJECT, u);
    }

    private static void updateWithoutLabel() {
        ObjectCalculus x = withTypes();
        int u = updateTerm(x, BOTH, 1, ONE, x.variable(0));
        due("a label that only the receiver has", x, u, ObjectCalculus.CK_NO_LABEL, u);
        u = x.update(x.object(1), 0, 1, x.variable(0));
        due("an update at EMPTY", x, u, ObjectCalculus.CK_NO_LABEL, u);
    }

    private static void updateReceiver() {
        ObjectCalculus x = withTypes();
        int u = updateTerm(x, MIXED, 0, BOTH, x.variable(0));
        due("a receiver with another member type", x, u, ObjectCalculus.CK_RECEIVER, u);
        u = x.update(x.object(1), 0, ONE, x.variable(0));
        due("a receiver with too few labels", x, u, ObjectCalculus.CK_RECEIVER, u);
        u = x.update(x.select(updateTerm(x, MIXED, 0, MIXED, x.variable(0)), 0), 0, ONE, x.variable(0));
        due("a receiver of type TOP", x, u, ObjectCalculus.CK_RECEIVER, u);
        int v = x.variable(0);
        u = x.update(v, 0, BOTH, x.object(1));
        due("the receiver is not under the binder", x, u, ObjectCalculus.CK_UNBOUND, v);
    }

    private static void updateBody() {
        ObjectCalculus x = withTypes();
        int s = x.select(x.variable(0), 0);
        int u = updateTerm(x, MIXED, 1, MIXED, s);
        due("a body of type TOP for EMPTY", x, u, ObjectCalculus.CK_BODY, u);
        s = x.select(x.variable(0), 1);
        u = updateTerm(x, MIXED, 0, MIXED, s);
        due("a body of type EMPTY for TOP", x, u, MIXED, -1);
        int v = x.variable(1);
        u = updateTerm(x, BOTH, 0, BOTH, v);
        due("an unbound variable in the body", x, u, ObjectCalculus.CK_UNBOUND, v);
        x = withTypes();
        v = x.variable(1);
        s = x.select(v, 1);
        u = updateTerm(x, BOTH, 0, ONE, s);
        int o = x.object(TOP0);
        x.addMethod(o, 0, u);
        due("select in a body sees the outer type", x, o, ObjectCalculus.CK_NO_LABEL, s);
    }

    private static void updateOrder() {
        ObjectCalculus x = new ObjectCalculus(32, 16);
        int t = x.extendType(1, 0, 1);
        int v = x.variable(0);
        int u = x.update(v, 0, 0, x.variable(9));
        due("the receiver goes before the annotation TOP", x, u, ObjectCalculus.CK_UNBOUND, v);
        v = x.variable(0);
        u = x.update(v, 5, t, x.variable(9));
        due("the receiver goes before the label", x, u, ObjectCalculus.CK_UNBOUND, v);
        u = x.update(x.object(1), 5, 0, x.variable(9));
        due("the annotation TOP goes before the label", x, u, ObjectCalculus.CK_NOT_OBJECT, u);
        u = x.update(x.object(1), 5, t, x.variable(9));
        due("the label goes before the receiver's type", x, u, ObjectCalculus.CK_NO_LABEL, u);
        u = x.update(x.object(1), 0, t, x.variable(9));
        due("the receiver's type goes before the body", x, u, ObjectCalculus.CK_RECEIVER, u);
        int body = x.object(0);
        int e = x.object(1);
        int o = x.object(t);
        x.addMethod(o, 0, e);
        u = x.update(o, 0, t, body);
        due("the body's own error stands", x, u, ObjectCalculus.CK_NOT_OBJECT, body);
    }

    /** It has the annotation's type, which may know less than the receiver's. */
    private static void selfOfAnUpdate() {
        ObjectCalculus x = withTypes();
        int s = x.select(x.variable(0), 1);
        int u = updateTerm(x, BOTH, 0, ONE, s);
        due("a label that only the receiver has", x, u, ObjectCalculus.CK_NO_LABEL, s);
        s = x.select(x.variable(0), 1);
        u = updateTerm(x, BOTH, 0, BOTH, s);
        due("a label of the annotation", x, u, BOTH, -1);
    }

    private static int literal(ObjectCalculus x, int type, int label, int body) {
        int o = x.object(type);
        x.addMethod(o, label, body);
        return o;
    }

    private static void literalAtTop() {
        ObjectCalculus x = withTypes();
        int o = x.object(0);
        due("a literal at TOP", x, o, ObjectCalculus.CK_NOT_OBJECT, o);
        int p = literal(x, 0, 0, o);
        due("a literal at TOP with a method", x, p, ObjectCalculus.CK_NOT_OBJECT, p);
    }

    private static void literalLabels() {
        ObjectCalculus x = withTypes();
        int o = x.object(1);
        due("the empty literal", x, o, 1, -1);
        o = x.object(ONE);
        due("a missing method", x, o, ObjectCalculus.CK_LABELS, o);
        int v = x.variable(0);
        o = literal(x, 1, 0, v);
        due("one method too many", x, o, ObjectCalculus.CK_LABELS, o);
        v = x.variable(0);
        o = literal(x, ONE, 1, v);
        due("another label", x, o, ObjectCalculus.CK_LABELS, o);
        v = x.variable(0);
        int w = x.variable(0);
        o = literal(x, BOTH, 1, v);
        due("one of two methods", x, o, ObjectCalculus.CK_LABELS, o);
        x.addMethod(o, 0, w);
        due("two methods in another order than the type's", x, o, BOTH, -1);
    }

    private static void literalBody() {
        ObjectCalculus x = withTypes();
        int v = x.variable(0);
        int o = literal(x, ONE, 0, v);
        due("a body of a subtype", x, o, ONE, -1);
        int s = x.select(x.variable(0), 0);
        int e = x.object(1);
        o = literal(x, MIXED, 1, s);
        x.addMethod(o, 0, e);
        due("TOP does not fit EMPTY", x, o, ObjectCalculus.CK_BODY, o);
    }

    private static void literalOrder() {
        ObjectCalculus x = new ObjectCalculus(32, 16);
        int a = x.extendType(1, 0, 1);
        int t = x.extendType(a, 1, a);
        int v = x.variable(9);
        int o = x.object(a);
        x.addMethod(o, 1, v);
        due("the labels go before the bodies", x, o, ObjectCalculus.CK_LABELS, o);
        v = x.variable(9);
        o = x.object(0);
        x.addMethod(o, 1, v);
        due("the annotation TOP goes before the bodies", x, o, ObjectCalculus.CK_NOT_OBJECT, o);
        int e = x.object(1);
        v = x.variable(9);
        o = x.object(t);
        x.addMethod(o, 1, e);
        x.addMethod(o, 0, v);
        due("the first body's test goes before the second body", x, o, ObjectCalculus.CK_BODY, o);
        e = x.object(1);
        v = x.variable(9);
        o = x.object(t);
        x.addMethod(o, 0, v);
        x.addMethod(o, 1, e);
        due("the first body's error goes before the second's test", x, o, ObjectCalculus.CK_UNBOUND, v);
        int first = x.variable(0);
        int second = x.variable(9);
        o = x.object(t);
        x.addMethod(o, 1, first);
        due("labels are tested as they stand", x, o, ObjectCalculus.CK_LABELS, o);
        x.addMethod(o, 0, second);
        due("the second body's error", x, o, ObjectCalculus.CK_UNBOUND, second);
    }

    /** The eighth label and the eighth body count like the first. */
    private static void eightMethods() {
        for (int wrong = -1; wrong < 8; wrong++) {
            ObjectCalculus x = new ObjectCalculus(32, 32);
            int t = 1;
            for (int i = 0; i < 8; i++) {
                t = x.extendType(t, 2 * i, 1);
            }
            for (int i = 0; i < 8; i++) {
                x.variable(i == wrong ? 1 : 0);
            }
            int o = x.object(t);
            for (int i = 0; i < 8; i++) {
                due(i + " methods of eight", x, o, ObjectCalculus.CK_LABELS, o);
                x.addMethod(o, 14 - 2 * i, i);
            }
            due("eight, wrong is " + wrong, x, o, wrong < 0 ? t : ObjectCalculus.CK_UNBOUND, wrong);
        }
        ObjectCalculus x = new ObjectCalculus(32, 32);
        int t = 1;
        for (int i = 0; i < 8; i++) {
            t = x.extendType(t, i, 1);
            x.variable(0);
        }
        int o = x.object(t);
        for (int i = 0; i < 8; i++) {
            x.addMethod(o, i < 7 ? i : 8, i);
        }
        due("seven labels of eight and another one", x, o, ObjectCalculus.CK_LABELS, o);
    }

    private static void annotationNotReceiver() {
        ObjectCalculus x = new ObjectCalculus(32, 16);
        int wide = x.extendType(1, 0, 1);
        int both = x.extendType(wide, 1, 1);
        int u = updateTerm(x, both, 0, wide, x.object(1));
        int s = x.select(u, 1);
        due("an update forgets what its annotation lacks", x, s, ObjectCalculus.CK_NO_LABEL, s);
    }

    /** A member's type is answered as it stands in the type, though the body's own type knows more. */
    private static void subsumptionOnlyWhereStated() {
        ObjectCalculus x = new ObjectCalculus(32, 16);
        int one = x.extendType(1, 0, 1);
        int v = x.variable(0);
        int o = x.object(one);
        x.addMethod(o, 0, v);
        int s = x.select(o, 0);
        due("a select answers the member", x, s, 1, -1);
        int again = x.select(s, 0);
        due("what the member does not tell is lost", x, again, ObjectCalculus.CK_NO_LABEL, again);
    }

    /** All 32 nodes in one chain, with as many binders as fit. */
    private static void theGreatestTerm() {
        ObjectCalculus x = new ObjectCalculus(32, 32);
        int t = x.extendType(1, 0, 0);
        int n = x.variable(15);
        for (int i = 1; i < 32; i++) {
            int o = x.object(t);
            x.addMethod(o, 0, n);
            n = o;
        }
        due("31 binders around one variable", x, n, t, -1);
        due("16 binders around variable 15", x, 16, t, -1);
        due("15 binders around variable 15", x, 15, ObjectCalculus.CK_UNBOUND, 0);
        x = new ObjectCalculus(32, 32);
        int w = x.extendType(1, 0, 1);
        int e = x.object(1);
        n = x.object(w);
        x.addMethod(n, 0, e);
        for (int i = 0; i < 15; i++) {
            int body = x.variable(0);
            n = x.update(n, 0, w, body);
        }
        due("15 updates in one another", x, n, w, -1);
    }
}
