/** Promise 12, but for its last paragraph, which ModelTest tests. */
public final class RunTest {
    public static void main(String[] args) {
        refusedRuns();
        openTerms();
        outcomes();
        order();
        depth();
        space();
        fuel();
        closuresKeepTheirEnvironment();
        updateCopies();
        theAnnotationsPlayNoPart();
        Due.end();
    }

    private static void due(String name, ObjectCalculus x, int outcome, int want, int used, int created) {
        Due.is(name, outcome, want);
        Due.is(name + ", fuelUsed()", x.fuelUsed(), used);
        Due.is(name + ", objectsCreated()", x.objectsCreated(), created);
    }

    /** A literal [0 = s(x) x]. */
    private static int selfObject(ObjectCalculus x) {
        int v = x.variable(0);
        int o = x.object(1);
        x.addMethod(o, 0, v);
        return o;
    }

    private static void refusedRuns() {
        ObjectCalculus x = new ObjectCalculus(8, 8);
        int o = selfObject(x);
        int s = x.select(o, 0);
        int v = x.variable(0);
        due("run(s, 5)", x, x.run(s, 5), 0, 1, 1);
        for (int r : new int[] {-1, 4, 8, 32, Integer.MIN_VALUE, Integer.MAX_VALUE}) {
            due("run(" + r + ", 5)", x, x.run(r, 5), ObjectCalculus.RUN_BAD_ROOT, 1, 1);
        }
        due("run of a variable", x, x.run(v, 5), ObjectCalculus.RUN_OPEN, 1, 1);
        due("run of an open body", x, x.run(0, 5), ObjectCalculus.RUN_OPEN, 1, 1);
        Due.is("the result stays", x.resultType(), 1);
        Due.is("its body stays", x.resultBody(0), 0);
    }

    private static void openTerms() {
        ObjectCalculus x = new ObjectCalculus(32, 8);
        int v = x.variable(1);
        int o = x.object(1);
        x.addMethod(o, 0, v);
        Due.is("variable 1 under one binder", x.run(o, 0), ObjectCalculus.RUN_OPEN);
        int p = x.object(1);
        x.addMethod(p, 0, o);
        Due.is("variable 1 under two binders", x.run(p, 0), ObjectCalculus.RUN_VALUE);
        int w = x.variable(0);
        int u = x.update(w, 0, 1, x.variable(0));
        Due.is("the receiver is not under the binder", x.run(u, 0), ObjectCalculus.RUN_OPEN);
        u = x.update(x.object(1), 0, 1, x.variable(0));
        Due.is("the body is under the binder", x.run(u, 0), ObjectCalculus.RUN_BAD_UPDATE);
        u = x.update(x.object(1), 0, 1, x.variable(1));
        Due.is("variable 1 under an update's binder", x.run(u, 0), ObjectCalculus.RUN_OPEN);
        o = x.object(1);
        x.addMethod(o, 0, u);
        Due.is("it is closed in a method around it", x.run(o, 0), ObjectCalculus.RUN_VALUE);
        int s = x.select(x.object(1), 0);
        Due.is("open terms elsewhere do not matter", x.run(s, 0), ObjectCalculus.RUN_MNU);
        int never = x.select(x.variable(3), 0);
        o = x.object(1);
        x.addMethod(o, 7, never);
        Due.is("a free variable that the run would not reach", x.run(o, 0), ObjectCalculus.RUN_OPEN);
        theLongestChains();
    }

    private static void theLongestChains() {
        ObjectCalculus x = new ObjectCalculus(32, 8);
        int n = x.variable(0);
        for (int i = 1; i < 32; i++) {
            n = x.select(n, 0);
        }
        Due.is("a free variable under 31 selects", x.run(n, 128), ObjectCalculus.RUN_OPEN);
        x = new ObjectCalculus(32, 8);
        n = x.variable(15);
        for (int i = 1; i < 32; i++) {
            int open = x.run(n, 0);
            Due.is("variable 15 under " + (i - 1) + " binders", open, i <= 16 ? 7 : 0);
            n = literalWith(x, 0, n);
        }
        Due.is("variable 15 under 31 binders", x.run(n, 0), ObjectCalculus.RUN_VALUE);
    }

    private static void outcomes() {
        ObjectCalculus x = new ObjectCalculus(32, 8);
        int o = selfObject(x);
        due("run of a literal", x, x.run(o, 0), ObjectCalculus.RUN_VALUE, 0, 1);
        int s = x.select(o, 0);
        due("run of a select", x, x.run(s, 9), ObjectCalculus.RUN_VALUE, 1, 1);
        Due.is("resultBody(0)", x.resultBody(0), 0);
        int m = x.select(s, 3);
        due("a label that is missing", x, x.run(m, 9), ObjectCalculus.RUN_MNU, 1, 1);
        Due.is("no result", x.resultType(), -1);
        int u = x.update(selfObject(x), 3, 1, x.variable(0));
        due("an update of a missing label", x, x.run(u, 9), ObjectCalculus.RUN_BAD_UPDATE, 0, 1);
        u = x.update(selfObject(x), 0, 0, x.object(1));
        due("an update", x, x.run(u, 9), ObjectCalculus.RUN_VALUE, 0, 2);
        Due.is("its origin", x.resultType(), 0);
        Due.is("the same run again", x.run(u, 9), ObjectCalculus.RUN_VALUE);
        due("counters do not add up", x, x.run(u, 9), ObjectCalculus.RUN_VALUE, 0, 2);
    }

    private static void order() {
        ObjectCalculus x = new ObjectCalculus(32, 8);
        int o = selfObject(x);
        int s = x.select(o, 0);
        int m = x.select(s, 4);
        due("the label goes before the fuel", x, x.run(m, 1), ObjectCalculus.RUN_MNU, 1, 1);
        due("the fuel ends before", x, x.run(m, 0), ObjectCalculus.RUN_OUT_OF_FUEL, 0, 1);
        due("fuel below zero", x, x.run(m, Integer.MIN_VALUE), ObjectCalculus.RUN_OUT_OF_FUEL, 0, 1);
        due("the greatest fuel", x, x.run(m, Integer.MAX_VALUE), ObjectCalculus.RUN_MNU, 1, 1);
        int u = x.update(x.select(x.object(1), 2), 3, 1, x.variable(0));
        due("the receiver's outcome stands", x, x.run(u, 9), ObjectCalculus.RUN_MNU, 0, 1);
    }

    /** o.0 where method 0 loops on itself through a chain of selects of method 1, which answers self. */
    private static int loop(ObjectCalculus x, int chain) {
        int n = x.variable(0);
        for (int i = 0; i < chain; i++) {
            n = x.select(n, 1);
        }
        n = x.select(n, 0);
        int self = x.variable(0);
        int o = x.object(1);
        x.addMethod(o, 0, n);
        x.addMethod(o, 1, self);
        return x.select(o, 0);
    }

    private static void depth() {
        ObjectCalculus x = new ObjectCalculus(32, 8);
        int s = loop(x, 0);
        due("a loop ends at depth 49", x, x.run(s, 128), ObjectCalculus.RUN_TOO_DEEP, 47, 1);
        due("with just the fuel", x, x.run(s, 47), ObjectCalculus.RUN_TOO_DEEP, 47, 1);
        due("with one less", x, x.run(s, 46), ObjectCalculus.RUN_OUT_OF_FUEL, 46, 1);
        x = new ObjectCalculus(32, 8);
        s = loop(x, 1);
        // The i-th body of the loop stands at depth i + 1 and its variable two deeper, so the 46th fails.
        due("a loop with a longer receiver", x, x.run(s, 128), ObjectCalculus.RUN_TOO_DEEP, 91, 1);
        depthOfAVariable(1, ObjectCalculus.RUN_VALUE);
        depthOfAVariable(2, ObjectCalculus.RUN_VALUE);
        depthOfAVariable(3, ObjectCalculus.RUN_TOO_DEEP);
        depthOfAnUpdate();
    }

    /**
     * Method 0 is x.1.2.2...2 with 21 selects of 2; method 1 replaces itself by the identity and runs
     * method 0 once more. With selects at the root the deepest variable stands at depth selects + 46.
     */
    private static void depthOfAVariable(int selects, int want) {
        ObjectCalculus x = new ObjectCalculus(32, 8);
        int n = x.select(x.variable(0), 1);
        for (int i = 0; i < 21; i++) {
            n = x.select(n, 2);
        }
        int identity = x.variable(0);
        int again = x.select(x.update(x.variable(0), 1, 1, x.variable(0)), 0);
        int root = x.object(1);
        x.addMethod(root, 0, n);
        x.addMethod(root, 1, again);
        x.addMethod(root, 2, identity);
        root = x.select(root, 0);
        for (int i = 1; i < selects; i++) {
            root = x.select(root, 2);
        }
        Due.is("a variable at depth " + (selects + 46), x.run(root, 128), want);
        Due.is("its objects", x.objectsCreated(), 2);
    }

    /** Each round of the methods 0, 1, 2 goes three deeper and ends in an update at depth 3i + 6. */
    private static void depthOfAnUpdate() {
        ObjectCalculus x = new ObjectCalculus(32, 8);
        int a = x.select(x.variable(0), 1);
        int b = x.select(x.variable(0), 2);
        int c = x.select(x.update(x.variable(0), 3, 1, x.variable(0)), 0);
        int d = x.variable(0);
        int o = x.object(1);
        x.addMethod(o, 0, a);
        x.addMethod(o, 1, b);
        x.addMethod(o, 2, c);
        x.addMethod(o, 3, d);
        int root = x.select(x.select(o, 0), 3);
        due("an update at depth 48", x, x.run(root, 128), ObjectCalculus.RUN_TOO_DEEP, 45, 15);
    }

    private static void space() {
        ObjectCalculus x = new ObjectCalculus(32, 8);
        int identity = x.variable(0);
        int again = x.select(x.update(x.variable(0), 1, 1, x.variable(0)), 0);
        int o = x.object(1);
        x.addMethod(o, 0, again);
        x.addMethod(o, 1, identity);
        int s = x.select(o, 0);
        due("an update makes the 33rd object", x, x.run(s, 128), ObjectCalculus.RUN_OUT_OF_SPACE, 32, 32);
        due("with 32 fuel", x, x.run(s, 32), ObjectCalculus.RUN_OUT_OF_SPACE, 32, 32);
        due("with 31 fuel", x, x.run(s, 31), ObjectCalculus.RUN_OUT_OF_FUEL, 31, 32);
        x = new ObjectCalculus(32, 8);
        int root = manyLiterals(x);
        due("32 objects", x, x.run(root, 128), ObjectCalculus.RUN_VALUE, 65, 32);
        root = x.select(root, 0);
        due("a literal makes the 33rd object", x, x.run(root, 128), ObjectCalculus.RUN_OUT_OF_SPACE, 66, 32);
        x = new ObjectCalculus(32, 8);
        root = x.update(manyLiterals(x), 5, 1, x.variable(0));
        due("the label goes before the space", x, x.run(root, 128), ObjectCalculus.RUN_BAD_UPDATE, 65, 32);
        x = new ObjectCalculus(32, 8);
        root = x.update(manyLiterals(x), 0, 1, x.variable(0));
        due("an update after 32 objects", x, x.run(root, 128), ObjectCalculus.RUN_OUT_OF_SPACE, 65, 32);
        Due.is("no result", x.resultType(), -1);
    }

    /** o.2.2.2.0 where 0 = s(x) [1 = s(y) x].1 makes an object, and 2 = s(x) x.0.0...0 makes ten. */
    private static int manyLiterals(ObjectCalculus x) {
        int outer = x.variable(1);
        int literal = x.object(1);
        x.addMethod(literal, 1, outer);
        int one = x.select(literal, 1);
        int ten = x.variable(0);
        for (int i = 0; i < 10; i++) {
            ten = x.select(ten, 0);
        }
        int root = x.object(1);
        x.addMethod(root, 0, one);
        x.addMethod(root, 2, ten);
        for (int i = 0; i < 3; i++) {
            root = x.select(root, 2);
        }
        return x.select(root, 0);
    }

    /** Each select of 0 invokes 11 times, each select of 1 once. */
    private static void fuel() {
        ObjectCalculus x = new ObjectCalculus(32, 8);
        int ten = x.variable(0);
        for (int i = 0; i < 10; i++) {
            ten = x.select(ten, 1);
        }
        int identity = x.variable(0);
        int root = x.object(1);
        x.addMethod(root, 0, ten);
        x.addMethod(root, 1, identity);
        for (int i = 0; i < 11; i++) {
            root = x.select(root, 0);
        }
        for (int i = 0; i < 7; i++) {
            root = x.select(root, 1);
        }
        for (int f = 0; f < 128; f++) {
            due("128 invocations with fuel " + f, x, x.run(root, f), ObjectCalculus.RUN_OUT_OF_FUEL, f, 1);
        }
        int more = x.select(root, 1);
        for (int f : new int[] {128, 129, 1000, Integer.MAX_VALUE}) {
            due("128 invocations with fuel " + f, x, x.run(root, f), ObjectCalculus.RUN_VALUE, 128, 1);
            due("129 invocations with fuel " + f, x, x.run(more, f), ObjectCalculus.RUN_OUT_OF_FUEL, 128, 1);
        }
        due("fuel -1", x, x.run(root, -1), ObjectCalculus.RUN_OUT_OF_FUEL, 0, 1);
    }

    private static void closuresKeepTheirEnvironment() {
        ObjectCalculus x = new ObjectCalculus(32, 8);
        int t = x.extendType(1, 0, 1);
        int w = x.variable(1);
        int inner = x.object(1);
        x.addMethod(inner, 1, w);
        int o = x.object(t);
        x.addMethod(o, 0, inner);
        int s = x.select(x.select(o, 0), 1);
        due("a literal's method names the outer self", x, x.run(s, 9), 0, 2, 2);
        Due.is("it is the outer object", x.resultType(), t);

        int u = x.update(literalWith(x, 1, x.variable(0)), 1, 1, x.variable(1));
        int body = x.select(u, 1);
        o = x.object(t);
        x.addMethod(o, 0, body);
        s = x.select(o, 0);
        due("an update's method names the outer self", x, x.run(s, 9), 0, 2, 3);
        Due.is("it is the outer object again", x.resultType(), t);

        int outerSelf = x.variable(1);
        int z = x.variable(0);
        int kept = x.object(1);
        x.addMethod(kept, 1, outerSelf);
        x.addMethod(kept, 2, z);
        body = x.select(x.update(kept, 2, 1, x.variable(0)), 1);
        o = x.object(t);
        x.addMethod(o, 0, body);
        // A first invocation on another object, so that the environment to keep is not the run's first.
        int first = literalWith(x, 3, o);
        s = x.select(x.select(first, 3), 0);
        due("the kept method keeps its environment", x, x.run(s, 9), 0, 3, 4);
        Due.is("it is the outer object once more", x.resultType(), t);
    }

    private static int literalWith(ObjectCalculus x, int label, int body) {
        int o = x.object(1);
        x.addMethod(o, label, body);
        return o;
    }

    /** o.1 with 1 = s(x) (x.0 := s(y) x).0.0: the second select of 0 must meet the old method. */
    private static void updateCopies() {
        ObjectCalculus x = new ObjectCalculus(32, 8);
        int mark = x.extendType(1, 9, 1);
        int old = x.object(mark);
        int u = x.update(x.variable(0), 0, 1, x.variable(1));
        int twice = x.select(x.select(u, 0), 0);
        int o = x.object(1);
        x.addMethod(o, 0, old);
        x.addMethod(o, 1, twice);
        int s = x.select(o, 1);
        due("an update makes a copy", x, x.run(s, 9), 0, 3, 3);
        Due.is("the receiver keeps its method", x.resultType(), mark);
    }

    private static void theAnnotationsPlayNoPart() {
        ObjectCalculus x = new ObjectCalculus(32, 8);
        int t = x.extendType(1, 9, 1);
        int v = x.variable(0);
        int o = x.object(0);
        x.addMethod(o, 0, v);
        int u = x.update(o, 0, t, x.variable(0));
        int s = x.select(u, 0);
        due("an ill-typed term runs", x, x.run(s, 9), 0, 1, 2);
        Due.is("its origin", x.resultType(), t);
        Due.is("a label of the annotation alone", x.resultBody(9), -1);
        Due.is("check", x.check(s), ObjectCalculus.CK_NOT_OBJECT);
        int m = x.select(s, 9);
        due("a label of the annotation alone cannot run", x, x.run(m, 9), ObjectCalculus.RUN_MNU, 1, 2);
    }
}
