/**
 * Promises 1 to 13 on long runs of calls: each answer is compared with the model's, and the whole
 * readable state now and then. Accepted terms must not trap (the end of promise 12).
 */
public final class ModelTest {
    private static final int ROUNDS = 6000;
    private static final int[] EDGES = {-1, 16, 17, 31, 32, 33, -16, Integer.MIN_VALUE, Integer.MAX_VALUE};

    private long seed;
    private ObjectCalculus x;
    private Model m;
    private int labels;
    private int wrongShare;
    private String name;

    private static final int[] outcomes = new int[8];
    private static final int[] errors = new int[8];
    private static int accepted = 0;

    public static void main(String[] args) {
        for (int round = 0; round < ROUNDS; round++) {
            ModelTest test = new ModelTest();
            test.seed = round * 7919L + 1;
            test.playRound(round);
        }
        reach();
        Due.end();
    }

    /** A test that never comes to an outcome says nothing about it. */
    private static void reach() {
        for (int outcome = 0; outcome < 8; outcome++) {
            Due.is("runs with outcome " + outcome + " are many", outcomes[outcome] >= 50, true);
        }
        for (int error = 1; error < 8; error++) {
            Due.is("checks with error -" + error + " are many", errors[error] >= 50, true);
        }
        Due.is("accepted terms are many", accepted >= 1000, true);
    }

    /** A number in 0..below-1 from a fixed sequence. */
    private int pick(int below) {
        seed = seed * 6364136223846793005L + 1442695040888963407L;
        return (int) ((seed >>> 33) % below);
    }

    private boolean wrongTurn() {
        return pick(100) < wrongShare;
    }

    private int edge() {
        return EDGES[pick(EDGES.length)];
    }

    private int label() {
        return wrongTurn() ? edge() : pick(labels);
    }

    private int type() {
        return wrongTurn() ? edge() : pick(m.typeCount() + (wrongTurn() ? 1 : 0));
    }

    private int node() {
        return wrongTurn() || m.nodeCount() == 0 ? edge() : pick(m.nodeCount());
    }

    /** A late node without a parent, if a few tries find one. */
    private int looseNode() {
        for (int i = 0; i < 8 && m.nodeCount() > 0; i++) {
            int n = m.nodeCount() - 1 - pick(1 + pick(m.nodeCount()));
            if (m.nodeParent(n) < 0) {
                return n;
            }
        }
        return node();
    }

    private void playRound(int round) {
        int nodeCap = pick(4) == 0 ? pick(50) - 5 : 32;
        int typeCap = pick(4) == 0 ? pick(50) - 5 : 32;
        x = new ObjectCalculus(nodeCap, typeCap);
        m = new Model(nodeCap, typeCap);
        labels = 1 + pick(pick(3) == 0 ? 16 : 3);
        wrongShare = pick(3) == 0 ? 10 : 1;
        name = "round " + round + ": ";
        if (round % 3 == 0) {
            plantTypedTerm();
        } else if (round % 3 == 1) {
            plantLoop();
        }
        int calls = 20 + pick(120);
        for (int i = 0; i < calls; i++) {
            call();
        }
        checkAll();
        compareState();
    }

    private void call() {
        int which = pick(20);
        if (which < 3) {
            extendType(type(), label(), type());
        } else if (which < 5) {
            variable(wrongTurn() ? edge() : pick(3));
        } else if (which < 7) {
            object(type());
        } else if (which < 10) {
            addMethod(looseNode(), label(), looseNode());
        } else if (which < 12) {
            select(looseNode(), label());
        } else if (which < 14) {
            update(looseNode(), label(), type(), looseNode());
        } else if (which < 16) {
            check(node());
        } else if (which < 18) {
            run(node(), fuel());
        } else if (which < 19) {
            readOne();
        } else {
            compareState();
        }
    }

    private int fuel() {
        return wrongTurn() ? edge() : pick(3) == 0 ? pick(140) - 5 : 128;
    }

    /** Labels 0..5 in a literal whose bodies select, update and nest, so that runs go far. */
    private void plantLoop() {
        labels = 2 + pick(3);
        int t = pick(m.typeCount());
        int methods = 2 + pick(3);
        int[] bodies = new int[methods];
        for (int i = 0; i < methods; i++) {
            bodies[i] = plantBody(0);
        }
        int o = object(t);
        for (int i = 0; i < methods; i++) {
            addMethod(o, i, bodies[i]);
        }
        int root = o;
        for (int i = 0; i <= pick(4); i++) {
            root = select(root, pick(methods));
        }
        run(root, fuel());
        run(root, fuel());
        compareState();
    }

    private int plantBody(int depth) {
        int n = variable(pick(depth + 1));
        int steps = pick(4);
        for (int i = 0; i < steps; i++) {
            int what = pick(depth == 0 ? 5 : 3);
            if (what < 2) {
                n = select(n, pick(labels));
            } else if (what == 2) {
                int body = variable(pick(depth + 2));
                n = update(n, pick(labels), pick(m.typeCount()), body);
            } else {
                int inner = plantBody(1);
                int l = pick(labels);
                int o = object(1);
                addMethod(o, l, inner);
                n = select(o, pick(5) == 0 ? pick(labels) : l);
            }
        }
        return n;
    }

    /** A term that mostly passes the checker: literals with every label of their type, and uses of them. */
    private void plantTypedTerm() {
        int small = extendType(1, 0, pick(2));
        int t = extendType(small, 1, pick(m.typeCount()));
        int u = extendType(t, 2, pick(m.typeCount()));
        int[] types = {1, small, t, u};
        for (int turn = 0; turn < 3; turn++) {
            int root = plantLiteral(types[pick(4)]);
            int steps = pick(5);
            for (int i = 0; i < steps && root >= 0; i++) {
                root = plantUse(root, types);
            }
            check(root);
            neverTraps(root);
        }
    }

    private int plantLiteral(int t) {
        int[] bodies = new int[16];
        for (int l = 0; l < 16; l++) {
            bodies[l] = m.typeMember(t, l) < 0 ? -1 : plantMember(t, m.typeMember(t, l));
        }
        int o = object(t);
        int first = pick(16);
        for (int i = 0; i < 16; i++) {
            int l = (first + i) % 16;
            if (bodies[l] >= 0) {
                addMethod(o, l, bodies[l]);
            }
        }
        return o;
    }

    /** A body of type member under a self of type t, as far as a few forms can give one. */
    private int plantMember(int t, int member) {
        int form = pick(4);
        if (form == 0 && (m.isSubtype(t, member) || pick(3) == 0)) {
            return variable(0);
        }
        for (int l = 0; form < 3 && l < 16; l++) {
            if (m.typeMember(t, l) == member) {
                int self = variable(0);
                int again = pick(2) == 0 ? update(self, l, t, variable(0)) : self;
                return select(again, l);
            }
        }
        return object(member == 0 || pick(4) == 0 ? 1 : member);
    }

    private int plantUse(int root, int[] types) {
        int t = m.check(root);
        x.check(root);
        int l = pick(3);
        if (pick(2) == 0) {
            return select(root, l);
        }
        int a = t > 0 && pick(3) > 0 ? t : types[pick(4)];
        int body = pick(2) == 0 ? variable(0) : select(variable(0), l);
        return update(root, l, a, body);
    }

    private void checkAll() {
        for (int n = -1; n <= m.nodeCount(); n++) {
            check(n);
            neverTraps(n);
        }
    }

    private void neverTraps(int r) {
        int t = x.check(r);
        m.check(r);
        if (t < 0) {
            return;
        }
        accepted++;
        int outcome = run(r, fuel());
        boolean fine = outcome == ObjectCalculus.RUN_VALUE || outcome == ObjectCalculus.RUN_OUT_OF_FUEL
            || outcome == ObjectCalculus.RUN_TOO_DEEP || outcome == ObjectCalculus.RUN_OUT_OF_SPACE;
        Due.is(name + "the accepted term " + r + " does not trap", fine, true);
        for (int l = 0; outcome == ObjectCalculus.RUN_VALUE && l < 16; l++) {
            if (x.typeMember(t, l) >= 0) {
                Due.is(name + "the value has label " + l, x.resultBody(l) >= 0, true);
            }
        }
    }

    private int extendType(int t, int label, int member) {
        int want = m.extendType(t, label, member);
        Due.is(name + "extendType(" + t + ", " + label + ", " + member + ")", x.extendType(t, label, member), want);
        return want;
    }

    private int variable(int k) {
        int want = m.variable(k);
        Due.is(name + "variable(" + k + ")", x.variable(k), want);
        return want;
    }

    private int object(int a) {
        int want = m.object(a);
        Due.is(name + "object(" + a + ")", x.object(a), want);
        return want;
    }

    private void addMethod(int obj, int label, int body) {
        boolean want = m.addMethod(obj, label, body);
        Due.is(name + "addMethod(" + obj + ", " + label + ", " + body + ")", x.addMethod(obj, label, body), want);
    }

    private int select(int a, int label) {
        int want = m.select(a, label);
        Due.is(name + "select(" + a + ", " + label + ")", x.select(a, label), want);
        return want;
    }

    private int update(int a, int label, int type, int body) {
        int want = m.update(a, label, type, body);
        String call = "update(" + a + ", " + label + ", " + type + ", " + body + ")";
        Due.is(name + call, x.update(a, label, type, body), want);
        return want;
    }

    private void check(int r) {
        int want = m.check(r);
        Due.is(name + "check(" + r + ")", x.check(r), want);
        Due.is(name + "errorNode() after check(" + r + ")", x.errorNode(), m.errorNode());
        if (want < 0) {
            errors[-want]++;
        }
    }

    private int run(int r, int fuel) {
        int want = m.run(r, fuel);
        String call = name + "run(" + r + ", " + fuel + ")";
        Due.is(call, x.run(r, fuel), want);
        Due.is(call + " fuelUsed()", x.fuelUsed(), m.fuelUsed());
        Due.is(call + " objectsCreated()", x.objectsCreated(), m.objectsCreated());
        compareResult(call);
        outcomes[want]++;
        return want;
    }

    private void compareResult(String when) {
        Due.is(when + " resultType()", x.resultType(), m.resultType());
        for (int l = -1; l <= 16; l++) {
            Due.is(when + " resultBody(" + l + ")", x.resultBody(l), m.resultBody(l));
        }
    }

    private void readOne() {
        int a = type();
        int b = type();
        int l = label();
        int n = node();
        Due.is(name + "typeMember(" + a + ", " + l + ")", x.typeMember(a, l), m.typeMember(a, l));
        Due.is(name + "isSubtype(" + a + ", " + b + ")", x.isSubtype(a, b), m.isSubtype(a, b));
        Due.is(name + "nodeParent(" + n + ")", x.nodeParent(n), m.nodeParent(n));
        Due.is(name + "resultBody(" + l + ")", x.resultBody(l), m.resultBody(l));
    }

    private void compareState() {
        compareResult(name + "state");
        Due.is(name + "errorNode()", x.errorNode(), m.errorNode());
        Due.is(name + "fuelUsed()", x.fuelUsed(), m.fuelUsed());
        Due.is(name + "objectsCreated()", x.objectsCreated(), m.objectsCreated());
        for (int i = -1; i <= 32; i++) {
            Due.is(name + "nodeParent(" + i + ")", x.nodeParent(i), m.nodeParent(i));
            for (int l = -1; l <= 16; l++) {
                Due.is(name + "typeMember(" + i + ", " + l + ")", x.typeMember(i, l), m.typeMember(i, l));
            }
            for (int j = -1; j <= 32; j++) {
                Due.is(name + "isSubtype(" + i + ", " + j + ")", x.isSubtype(i, j), m.isSubtype(i, j));
            }
        }
    }
}
