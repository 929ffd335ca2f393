/** The end of promise 12: accepted terms never trap. ModelTest tests the same on many terms. */
public final class AcceptedTest {
    private static final int ONE = 2;       // [0:EMPTY]
    private static final int BOTH = 3;      // [0:EMPTY, 1:EMPTY]
    private static final int TO_TOP = 4;    // [0:TOP]

    public static void main(String[] args) {
        literal();
        select();
        update();
        unknownToItsType();
        topPromisesNothing();
        loop();
        updates();
        checkedInTheCurrentState();
        refusedByTheCheckTraps();
        Due.end();
    }

    private static ObjectCalculus withTypes() {
        ObjectCalculus x = new ObjectCalculus(32, 8);
        x.extendType(1, 0, 1);
        x.extendType(ONE, 1, 1);
        Due.is("the last type", x.extendType(1, 0, 0), TO_TOP);
        return x;
    }

    private static int both(ObjectCalculus x, int body0, int body1) {
        int o = x.object(BOTH);
        x.addMethod(o, 0, body0);
        x.addMethod(o, 1, body1);
        return o;
    }

    /** The term passes as the type, and no fuel makes it trap; with the full fuel it ends as is due. */
    private static void accepted(String name, ObjectCalculus x, int root, int type, int outcome) {
        Due.is(name + ", check", x.check(root), type);
        for (int fuel = -2; fuel <= 130; fuel++) {
            neverTraps(name + " with fuel " + fuel, x, root, fuel, type);
        }
        neverTraps(name + " with the least fuel", x, root, Integer.MIN_VALUE, type);
        neverTraps(name + " with the greatest fuel", x, root, Integer.MAX_VALUE, type);
        Due.is(name + ", run with fuel 128", x.run(root, 128), outcome);
    }

    private static void neverTraps(String name, ObjectCalculus x, int root, int fuel, int type) {
        int outcome = x.run(root, fuel);
        boolean fine = outcome == ObjectCalculus.RUN_VALUE || outcome == ObjectCalculus.RUN_OUT_OF_FUEL
            || outcome == ObjectCalculus.RUN_TOO_DEEP || outcome == ObjectCalculus.RUN_OUT_OF_SPACE;
        Due.is(name + " does not trap", fine, true);
        for (int l = 0; outcome == ObjectCalculus.RUN_VALUE && l < 16; l++) {
            if (x.typeMember(type, l) >= 0) {
                Due.is(name + ", the value has label " + l, x.resultBody(l) >= 0, true);
            }
        }
    }

    private static void literal() {
        ObjectCalculus x = withTypes();
        accepted("the empty literal", x, x.object(1), 1, ObjectCalculus.RUN_VALUE);
        int o = both(x, x.variable(0), x.variable(0));
        accepted("a literal", x, o, BOTH, ObjectCalculus.RUN_VALUE);
        Due.is("resultBody(0)", x.resultBody(0), 1);
        Due.is("resultBody(1)", x.resultBody(1), 2);
    }

    private static void select() {
        ObjectCalculus x = withTypes();
        int s = x.select(both(x, x.object(1), x.variable(0)), 0);
        accepted("a select", x, s, 1, ObjectCalculus.RUN_VALUE);
        Due.is("with fuel 0", x.run(s, 0), ObjectCalculus.RUN_OUT_OF_FUEL);
        Due.is("with fuel 1", x.run(s, 1), ObjectCalculus.RUN_VALUE);
    }

    /** The update's type is the annotation, which knows less than the value has. */
    private static void update() {
        ObjectCalculus x = withTypes();
        int u = x.update(both(x, x.object(1), x.variable(0)), 0, ONE, x.variable(0));
        accepted("an update at a supertype", x, u, ONE, ObjectCalculus.RUN_VALUE);
        Due.is("the updated body", x.resultBody(0), u - 1);
        Due.is("the body that its type does not know", x.resultBody(1), 1);
        Due.is("resultType()", x.resultType(), ONE);
    }

    private static void unknownToItsType() {
        ObjectCalculus x = withTypes();
        int s = x.select(both(x, x.object(1), x.variable(0)), 1);
        accepted("a select that answers a wider object", x, s, 1, ObjectCalculus.RUN_VALUE);
        Due.is("resultType() is the origin, not the checked type", x.resultType(), BOTH);
        Due.is("resultBody(0)", x.resultBody(0), 0);
    }

    private static void topPromisesNothing() {
        ObjectCalculus x = withTypes();
        int e = x.object(1);
        int o = x.object(TO_TOP);
        x.addMethod(o, 0, e);
        accepted("a term of type TOP", x, x.select(o, 0), ObjectCalculus.TOP, ObjectCalculus.RUN_VALUE);
        Due.is("its value needs no method", x.resultBody(0), -1);
    }

    private static void loop() {
        ObjectCalculus x = withTypes();
        int s = x.select(both(x, x.select(x.variable(0), 0), x.variable(0)), 0);
        accepted("a loop", x, s, 1, ObjectCalculus.RUN_TOO_DEEP);
        Due.is("with less fuel than depth", x.run(s, 46), ObjectCalculus.RUN_OUT_OF_FUEL);
    }

    private static void updates() {
        ObjectCalculus x = withTypes();
        int u = x.update(x.variable(0), 1, BOTH, x.variable(0));
        int s = x.select(both(x, x.select(u, 0), x.variable(0)), 0);
        accepted("updates without an end", x, s, 1, ObjectCalculus.RUN_OUT_OF_SPACE);
        Due.is("with less fuel than objects", x.run(s, 31), ObjectCalculus.RUN_OUT_OF_FUEL);
    }

    /** The promise holds for what check would answer now: a method that comes later changes both. */
    private static void checkedInTheCurrentState() {
        ObjectCalculus x = withTypes();
        int e = x.object(1);
        int late = x.object(1);
        int o = x.object(BOTH);
        x.addMethod(o, 0, e);
        int s = x.select(o, 1);
        Due.is("check without the method", x.check(s), ObjectCalculus.CK_LABELS);
        Due.is("run without the method", x.run(s, 9), ObjectCalculus.RUN_MNU);
        x.addMethod(o, 1, late);
        accepted("the term with its method", x, s, 1, ObjectCalculus.RUN_VALUE);
    }

    /** What the check does not accept may trap, in each of the ways that accepted terms never do. */
    private static void refusedByTheCheckTraps() {
        ObjectCalculus x = withTypes();
        int s = x.select(x.object(1), 0);
        Due.is("check of a missing method", x.check(s), ObjectCalculus.CK_NO_LABEL);
        Due.is("run of a missing method", x.run(s, 9), ObjectCalculus.RUN_MNU);
        int u = x.update(x.object(1), 0, ONE, x.variable(0));
        Due.is("check of a missing method to update", x.check(u), ObjectCalculus.CK_RECEIVER);
        Due.is("run of a missing method to update", x.run(u, 9), ObjectCalculus.RUN_BAD_UPDATE);
        int v = x.variable(0);
        Due.is("check of an open term", x.check(v), ObjectCalculus.CK_UNBOUND);
        Due.is("run of an open term", x.run(v, 9), ObjectCalculus.RUN_OPEN);
        Due.is("check of no term", x.check(-1), ObjectCalculus.CK_BAD_ROOT);
        Due.is("run of no term", x.run(-1, 9), ObjectCalculus.RUN_BAD_ROOT);
    }
}
