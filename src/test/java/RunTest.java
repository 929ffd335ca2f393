import java.util.List;

/** Promise 12, but for its last paragraph, which AcceptedTest and ModelTest test. */
public final class RunTest {
    public static void main(String[] args) {
        badRoot();
        openRoot();
        countersWithoutARun();
        keepsTheRest();
        readingTheCountersChangesNothing();
        freeAtTheEdge();
        receiverOfAnUpdateIsNotBound();
        bodyOfAnUpdateIsBound();
        bindersAroundTheRootDoNotCount();
        freeVariableOutOfReach();
        openTermElsewhere();
        freeVariableFarBelow();
        values();
        countersStartAgain();
        methodNotUnderstood();
        badUpdate();
        receiverStopsTheRun();
        labelBeforeFuel();
        labelBeforeSpace();
        fuelBelowZero();
        fuelZero();
        everyFuel();
        fuelAbove128();
        variableAtDepth48();
        loopToDepth49();
        loopWithALongerReceiver();
        literalAtDepth48();
        literalAtDepth49();
        depthBeforeSpace();
        updateAtDepth48();
        literalAsObject32();
        literalAsObject33();
        updateAsObject32();
        updateAsObject33();
        updatesUntilObject33();
        nothingIsLeftOfAnEarlierRun();
        laterObjectsLeaveEarlierOnesAlone();
        closuresKeepTheirEnvironment();
        updateCopies();
        theAnnotationsPlayNoPart();
        Due.end();
    }

    /** Runs, and compares the outcome and both counters. */
    private static void due(String name, ObjectCalculus x, int root, int fuel, int want, int used, int created) {
        Due.is(name, x.run(root, fuel), want);
        Due.is(name + ", fuelUsed()", x.fuelUsed(), used);
        Due.is(name + ", objectsCreated()", x.objectsCreated(), created);
        boolean value = want == ObjectCalculus.RUN_VALUE;
        Due.is(name + ", there is a result", x.resultType() >= 0, value);
    }

    /** [0 = s(x) x] */
    private static int selfObject(ObjectCalculus x) {
        return literalWith(x, 0, x.variable(0));
    }

    private static int literalWith(ObjectCalculus x, int label, int body) {
        int o = x.object(1);
        x.addMethod(o, label, body);
        return o;
    }

    private static void badRoot() {
        int want = ObjectCalculus.RUN_BAD_ROOT;
        for (int r : Outside.of(Scene.NODES)) {
            Twin.changesNothing("run(" + r + ", 5)", Scene::make, x -> x.run(r, 5), want);
        }
        for (int fuel : new int[] {Integer.MIN_VALUE, -1, 0, 128, 129, Integer.MAX_VALUE}) {
            Twin.changesNothing("run(-1, " + fuel + ")", Scene::make, x -> x.run(-1, fuel), want);
        }
        Twin.changesNothing("run(0, 5) without nodes", () -> new ObjectCalculus(8, 8), x -> x.run(0, 5), want);
        Twin.changesNothing("run behind a full table", Scene::makeWithFullNodes, x -> x.run(Scene.NODES, 5), want);
    }

    private static void openRoot() {
        int want = ObjectCalculus.RUN_OPEN;
        for (int r : new int[] {Scene.OPEN_VAR, Scene.VAR, Scene.TAKEN_VAR, Scene.LATE_VAR}) {
            Twin.changesNothing("run(" + r + ", 5)", Scene::make, x -> x.run(r, 5), want);
        }
        for (int fuel : new int[] {Integer.MIN_VALUE, -1, 0, 128, 129, Integer.MAX_VALUE}) {
            Twin.changesNothing("run(OPEN_VAR, " + fuel + ")", Scene::make, x -> x.run(Scene.OPEN_VAR, fuel), want);
        }
    }

    private static void countersWithoutARun() {
        ObjectCalculus x = new ObjectCalculus(8, 8);
        Due.is("fuelUsed() at first", x.fuelUsed(), 0);
        Due.is("objectsCreated() at first", x.objectsCreated(), 0);
        int v = x.variable(0);
        int o = x.object(1);
        x.run(-1, 5);
        x.run(v, 5);
        x.check(o);
        Due.is("fuelUsed() after refused runs", x.fuelUsed(), 0);
        Due.is("objectsCreated() after refused runs", x.objectsCreated(), 0);
    }

    /** Nodes and types never change during a run, and the last check's error node stays. */
    private static void keepsTheRest() {
        List<Twin.Part> parts = List.of(Twin::types, Twin::parents, Twin::errorNode, Twin::terms, Twin::room);
        int[][] calls = {
            {Scene.SEL, 0, 3}, {Scene.SEL, 1, 0}, {Scene.UPD, 0, 0}, {Scene.OBJ, 9, 0}, {Scene.OPEN_VAR, 9, 7}};
        for (int[] call : calls) {
            String name = "run(" + call[0] + ", " + call[1] + ")";
            Twin.keeps(name, Scene::make, x -> x.run(call[0], call[1]), call[2], parts);
        }
    }

    private static void readingTheCountersChangesNothing() {
        Twin.changesNothing("fuelUsed()", Scene::make, ObjectCalculus::fuelUsed, 1);
        Twin.changesNothing("objectsCreated()", Scene::make, ObjectCalculus::objectsCreated, 1);
    }

    /** Under m binders the variable m - 1 is bound and the variable m is free. */
    private static void freeAtTheEdge() {
        for (int k = 0; k <= 15; k++) {
            ObjectCalculus x = new ObjectCalculus(32, 8);
            int n = x.variable(k);
            for (int m = 0; m <= 31; m++) {
                int want = k >= m ? ObjectCalculus.RUN_OPEN : ObjectCalculus.RUN_VALUE;
                Due.is("variable " + k + " under " + m + " binders", x.run(n, 0), want);
                n = literalWith(x, 0, n);
            }
        }
    }

    private static void receiverOfAnUpdateIsNotBound() {
        ObjectCalculus x = new ObjectCalculus(32, 8);
        int u = x.update(x.variable(0), 0, 1, x.variable(0));
        Due.is("variable 0 as a receiver", x.run(u, 0), ObjectCalculus.RUN_OPEN);
        int o = literalWith(x, 0, u);
        Due.is("it is bound by a method around it", x.run(o, 0), ObjectCalculus.RUN_VALUE);
        u = x.update(x.select(x.variable(1), 2), 0, 1, x.variable(0));
        o = literalWith(x, 0, u);
        Due.is("variable 1 as a receiver under one method", x.run(o, 0), ObjectCalculus.RUN_OPEN);
        o = literalWith(x, 0, o);
        Due.is("variable 1 as a receiver under two methods", x.run(o, 0), ObjectCalculus.RUN_VALUE);
    }

    private static void bodyOfAnUpdateIsBound() {
        ObjectCalculus x = new ObjectCalculus(32, 8);
        int u = x.update(selfObject(x), 0, 1, x.variable(0));
        Due.is("variable 0 as a body", x.run(u, 0), ObjectCalculus.RUN_VALUE);
        u = x.update(selfObject(x), 0, 1, x.variable(1));
        Due.is("variable 1 as a body", x.run(u, 0), ObjectCalculus.RUN_OPEN);
        int o = literalWith(x, 0, u);
        Due.is("it is bound by a method around it", x.run(o, 0), ObjectCalculus.RUN_VALUE);
    }

    private static void bindersAroundTheRootDoNotCount() {
        ObjectCalculus x = new ObjectCalculus(32, 8);
        int v = x.variable(1);
        int o = literalWith(x, 0, v);
        int p = literalWith(x, 0, o);
        Due.is("run of the whole", x.run(p, 0), ObjectCalculus.RUN_VALUE);
        Due.is("run of the inner literal", x.run(o, 0), ObjectCalculus.RUN_OPEN);
        Due.is("run of the variable", x.run(v, 0), ObjectCalculus.RUN_OPEN);
    }

    private static void freeVariableOutOfReach() {
        ObjectCalculus x = new ObjectCalculus(32, 8);
        int o = literalWith(x, 7, x.select(x.variable(3), 0));
        Due.is("a free variable that the run would not reach", x.run(o, 0), ObjectCalculus.RUN_OPEN);
        int s = x.select(o, 0);
        Due.is("the same behind a missing label", x.run(s, 0), ObjectCalculus.RUN_OPEN);
    }

    private static void openTermElsewhere() {
        ObjectCalculus x = new ObjectCalculus(32, 8);
        x.variable(0);
        int s = x.select(x.object(1), 0);
        x.variable(15);
        Due.is("open terms elsewhere do not matter", x.run(s, 0), ObjectCalculus.RUN_MNU);
    }

    private static void freeVariableFarBelow() {
        ObjectCalculus x = new ObjectCalculus(32, 8);
        int n = x.variable(0);
        for (int i = 1; i < 32; i++) {
            n = x.select(n, 0);
        }
        Due.is("a free variable under 31 selects", x.run(n, 128), ObjectCalculus.RUN_OPEN);
    }

    private static void values() {
        ObjectCalculus x = new ObjectCalculus(32, 8);
        int o = selfObject(x);
        due("run of a literal", x, o, 0, ObjectCalculus.RUN_VALUE, 0, 1);
        int s = x.select(o, 0);
        due("run of a select", x, s, 9, ObjectCalculus.RUN_VALUE, 1, 1);
        Due.is("resultBody(0)", x.resultBody(0), 0);
        int body = x.object(1);
        int u = x.update(selfObject(x), 0, 0, body);
        due("run of an update", x, u, 9, ObjectCalculus.RUN_VALUE, 0, 2);
        Due.is("its origin", x.resultType(), 0);
        Due.is("its body", x.resultBody(0), body);
    }

    private static void countersStartAgain() {
        ObjectCalculus x = new ObjectCalculus(32, 8);
        int u = x.update(selfObject(x), 0, 1, x.variable(0));
        int s = x.select(u, 0);
        due("the first run", x, s, 9, ObjectCalculus.RUN_VALUE, 1, 2);
        due("the same run again", x, s, 9, ObjectCalculus.RUN_VALUE, 1, 2);
        due("a run that uses less", x, u, 9, ObjectCalculus.RUN_VALUE, 0, 2);
    }

    private static void methodNotUnderstood() {
        ObjectCalculus x = new ObjectCalculus(32, 8);
        int s = x.select(x.object(1), 0);
        due("a select of a literal without methods", x, s, 9, ObjectCalculus.RUN_MNU, 0, 1);
        s = x.select(x.select(selfObject(x), 0), 3);
        due("a select of a missing label", x, s, 9, ObjectCalculus.RUN_MNU, 1, 1);
    }

    private static void badUpdate() {
        ObjectCalculus x = new ObjectCalculus(32, 8);
        int u = x.update(x.object(1), 0, 1, x.variable(0));
        due("an update of a literal without methods", x, u, 9, ObjectCalculus.RUN_BAD_UPDATE, 0, 1);
        u = x.update(x.select(selfObject(x), 0), 3, 1, x.variable(0));
        due("an update of a missing label", x, u, 9, ObjectCalculus.RUN_BAD_UPDATE, 1, 1);
    }

    private static void receiverStopsTheRun() {
        ObjectCalculus x = new ObjectCalculus(32, 8);
        int u = x.update(x.select(x.object(1), 2), 3, 1, x.variable(0));
        due("an update behind RUN_MNU", x, u, 9, ObjectCalculus.RUN_MNU, 0, 1);
        int s = x.select(x.update(x.object(1), 2, 1, x.variable(0)), 3);
        due("a select behind RUN_BAD_UPDATE", x, s, 9, ObjectCalculus.RUN_BAD_UPDATE, 0, 1);
        s = x.select(x.select(selfObject(x), 0), 3);
        due("a select behind RUN_OUT_OF_FUEL", x, s, 0, ObjectCalculus.RUN_OUT_OF_FUEL, 0, 1);
        u = x.update(x.select(selfObject(x), 0), 3, 1, x.variable(0));
        due("an update behind RUN_OUT_OF_FUEL", x, u, 0, ObjectCalculus.RUN_OUT_OF_FUEL, 0, 1);
    }

    private static void labelBeforeFuel() {
        ObjectCalculus x = new ObjectCalculus(32, 8);
        int s = x.select(selfObject(x), 4);
        due("a missing label without fuel", x, s, 0, ObjectCalculus.RUN_MNU, 0, 1);
        s = x.select(x.select(selfObject(x), 0), 4);
        due("a missing label when the fuel is used", x, s, 1, ObjectCalculus.RUN_MNU, 1, 1);
    }

    private static void labelBeforeSpace() {
        ObjectCalculus x = new ObjectCalculus(32, 8);
        int u = x.update(x.select(manyLiterals(x), 0), 5, 1, x.variable(0));
        due("a bad update with 32 objects", x, u, 128, ObjectCalculus.RUN_BAD_UPDATE, 65, 32);
    }

    private static void fuelBelowZero() {
        ObjectCalculus x = new ObjectCalculus(32, 8);
        int o = selfObject(x);
        int s = x.select(o, 0);
        for (int fuel : new int[] {-1, -2, -127, -128, -129, Integer.MIN_VALUE + 1, Integer.MIN_VALUE}) {
            due("a select with fuel " + fuel, x, s, fuel, ObjectCalculus.RUN_OUT_OF_FUEL, 0, 1);
            due("a literal with fuel " + fuel, x, o, fuel, ObjectCalculus.RUN_VALUE, 0, 1);
        }
    }

    private static void fuelZero() {
        ObjectCalculus x = new ObjectCalculus(32, 8);
        int o = selfObject(x);
        int u = x.update(o, 0, 1, x.variable(0));
        int s = x.select(u, 0);
        due("a literal with fuel 0", x, o, 0, ObjectCalculus.RUN_VALUE, 0, 1);
        due("an update with fuel 0", x, u, 0, ObjectCalculus.RUN_VALUE, 0, 2);
        due("a select with fuel 0", x, s, 0, ObjectCalculus.RUN_OUT_OF_FUEL, 0, 2);
        due("a select with fuel 1", x, s, 1, ObjectCalculus.RUN_VALUE, 1, 2);
    }

    /** A term of 128 invocations: each select of 0 makes 11 of them, each select of 1 one. */
    private static int term128(ObjectCalculus x) {
        int ten = x.variable(0);
        for (int i = 0; i < 10; i++) {
            ten = x.select(ten, 1);
        }
        int identity = x.variable(0);
        int root = x.object(1);
        x.addMethod(root, 0, ten);
        x.addMethod(root, 1, identity);
        for (int i = 0; i < 11; i++) {
            root = x.select(root, 0);
        }
        for (int i = 0; i < 7; i++) {
            root = x.select(root, 1);
        }
        return root;
    }

    private static void everyFuel() {
        ObjectCalculus x = new ObjectCalculus(32, 8);
        int root = term128(x);
        for (int f = 0; f < 128; f++) {
            due("128 invocations with fuel " + f, x, root, f, ObjectCalculus.RUN_OUT_OF_FUEL, f, 1);
        }
        due("128 invocations with fuel 128", x, root, 128, ObjectCalculus.RUN_VALUE, 128, 1);
    }

    private static void fuelAbove128() {
        ObjectCalculus x = new ObjectCalculus(32, 8);
        int root = term128(x);
        int more = x.select(root, 1);
        for (int f : new int[] {128, 129, 130, 256, 1000, 1 << 30, Integer.MAX_VALUE - 1, Integer.MAX_VALUE}) {
            due("128 invocations with fuel " + f, x, root, f, ObjectCalculus.RUN_VALUE, 128, 1);
            due("129 invocations with fuel " + f, x, more, f, ObjectCalculus.RUN_OUT_OF_FUEL, 128, 1);
        }
    }

    /**
     * Method 0 is x.1.2.2...2 with 21 selects of 2; method 1 replaces itself by the identity and runs
     * method 0 once more. With selects at the root the deepest variable stands at depth selects + 46.
     */
    private static int deepVariable(ObjectCalculus x, int selects) {
        int n = x.select(x.variable(0), 1);
        for (int i = 0; i < 21; i++) {
            n = x.select(n, 2);
        }
        int identity = x.variable(0);
        int again = x.select(x.update(x.variable(0), 1, 1, x.variable(0)), 0);
        int root = x.object(1);
        x.addMethod(root, 0, n);
        x.addMethod(root, 1, again);
        x.addMethod(root, 2, identity);
        root = x.select(root, 0);
        for (int i = 1; i < selects; i++) {
            root = x.select(root, 2);
        }
        return root;
    }

    private static void variableAtDepth48() {
        ObjectCalculus x = new ObjectCalculus(32, 8);
        due("a variable at depth 47", x, deepVariable(x, 1), 128, ObjectCalculus.RUN_VALUE, 46, 2);
        x = new ObjectCalculus(32, 8);
        due("a variable at depth 48", x, deepVariable(x, 2), 128, ObjectCalculus.RUN_VALUE, 47, 2);
        x = new ObjectCalculus(32, 8);
        due("a variable at depth 49", x, deepVariable(x, 3), 128, ObjectCalculus.RUN_TOO_DEEP, 3, 2);
    }

    /** o.0 where method 0 loops on itself through a chain of selects of method 1, which answers self. */
    private static int loop(ObjectCalculus x, int chain) {
        int n = x.variable(0);
        for (int i = 0; i < chain; i++) {
            n = x.select(n, 1);
        }
        n = x.select(n, 0);
        int self = x.variable(0);
        int o = x.object(1);
        x.addMethod(o, 0, n);
        x.addMethod(o, 1, self);
        return x.select(o, 0);
    }

    private static void loopToDepth49() {
        ObjectCalculus x = new ObjectCalculus(32, 8);
        int s = loop(x, 0);
        due("a loop ends at depth 49", x, s, 128, ObjectCalculus.RUN_TOO_DEEP, 47, 1);
        due("with just the fuel", x, s, 47, ObjectCalculus.RUN_TOO_DEEP, 47, 1);
        due("with one less", x, s, 46, ObjectCalculus.RUN_OUT_OF_FUEL, 46, 1);
    }

    private static void loopWithALongerReceiver() {
        ObjectCalculus x = new ObjectCalculus(32, 8);
        int s = loop(x, 1);
        // The i-th body of the loop stands at depth i + 1 and its variable two deeper, so the 46th fails.
        due("a loop with a longer receiver", x, s, 128, ObjectCalculus.RUN_TOO_DEEP, 91, 1);
        due("with just the fuel", x, s, 91, ObjectCalculus.RUN_TOO_DEEP, 91, 1);
        due("with one less", x, s, 90, ObjectCalculus.RUN_OUT_OF_FUEL, 90, 1);
    }

    /**
     * Method 0 = s(x) [1 = s(y) x.0].1 loops: each round makes a literal and goes two deeper. Before that,
     * each select of 2 = s(x) [3 = s(y) x].3 makes a literal. With selects at the root the loop's literals
     * stand at the depths selects + 2, selects + 4, and so on.
     */
    private static int deepLiterals(ObjectCalculus x, int before, int selects) {
        int again = x.select(x.variable(1), 0);
        int round = x.select(literalWith(x, 1, again), 1);
        int one = x.select(literalWith(x, 3, x.variable(1)), 3);
        int root = x.object(1);
        x.addMethod(root, 0, round);
        x.addMethod(root, 2, one);
        for (int i = 0; i < before; i++) {
            root = x.select(root, 2);
        }
        for (int i = 0; i < selects; i++) {
            root = x.select(root, 0);
        }
        return root;
    }

    private static void literalAtDepth48() {
        ObjectCalculus x = new ObjectCalculus(32, 8);
        // Literals at 4, 6, .. 48 and the first one; then the variable behind the last of them is too deep.
        due("a literal at depth 48", x, deepLiterals(x, 0, 2), 128, ObjectCalculus.RUN_TOO_DEEP, 46, 24);
    }

    private static void literalAtDepth49() {
        ObjectCalculus x = new ObjectCalculus(32, 8);
        // Literals at 3, 5, .. 47 and the first one; the next would stand at 49.
        due("a literal at depth 49", x, deepLiterals(x, 0, 1), 128, ObjectCalculus.RUN_TOO_DEEP, 47, 24);
    }

    private static void depthBeforeSpace() {
        ObjectCalculus x = new ObjectCalculus(32, 8);
        due("a 32nd literal at depth 49", x, deepLiterals(x, 7, 1), 128, ObjectCalculus.RUN_TOO_DEEP, 61, 31);
        x = new ObjectCalculus(32, 8);
        due("a 33rd literal at depth 49", x, deepLiterals(x, 8, 1), 128, ObjectCalculus.RUN_TOO_DEEP, 63, 32);
        x = new ObjectCalculus(32, 8);
        due("a 33rd literal at depth 47", x, deepLiterals(x, 9, 1), 128, ObjectCalculus.RUN_OUT_OF_SPACE, 63, 32);
    }

    /** Each round of the methods 0, 1, 2 goes three deeper and ends in an update at depth 3i + 6. */
    private static void updateAtDepth48() {
        ObjectCalculus x = new ObjectCalculus(32, 8);
        int a = x.select(x.variable(0), 1);
        int b = x.select(x.variable(0), 2);
        int c = x.select(x.update(x.variable(0), 3, 1, x.variable(0)), 0);
        int d = x.variable(0);
        int o = x.object(1);
        x.addMethod(o, 0, a);
        x.addMethod(o, 1, b);
        x.addMethod(o, 2, c);
        x.addMethod(o, 3, d);
        int root = x.select(x.select(o, 0), 3);
        due("an update at depth 48", x, root, 128, ObjectCalculus.RUN_TOO_DEEP, 45, 15);
    }

    /** 31 objects: o.2.2.2 where 0 = s(x) [1 = s(y) x].1 makes one, and 2 = s(x) x.0.0...0 ten. */
    private static int manyLiterals(ObjectCalculus x) {
        int one = x.select(literalWith(x, 1, x.variable(1)), 1);
        int ten = x.variable(0);
        for (int i = 0; i < 10; i++) {
            ten = x.select(ten, 0);
        }
        int root = x.object(1);
        x.addMethod(root, 0, one);
        x.addMethod(root, 2, ten);
        for (int i = 0; i < 3; i++) {
            root = x.select(root, 2);
        }
        return root;
    }

    private static void literalAsObject32() {
        ObjectCalculus x = new ObjectCalculus(32, 8);
        int root = manyLiterals(x);
        due("31 objects", x, root, 128, ObjectCalculus.RUN_VALUE, 63, 31);
        due("a literal as object 32", x, x.select(root, 0), 128, ObjectCalculus.RUN_VALUE, 65, 32);
    }

    private static void literalAsObject33() {
        ObjectCalculus x = new ObjectCalculus(32, 8);
        int root = x.select(x.select(manyLiterals(x), 0), 0);
        due("a literal as object 33", x, root, 128, ObjectCalculus.RUN_OUT_OF_SPACE, 66, 32);
        due("with just the fuel", x, root, 66, ObjectCalculus.RUN_OUT_OF_SPACE, 66, 32);
        due("with one less", x, root, 65, ObjectCalculus.RUN_OUT_OF_FUEL, 65, 32);
    }

    private static void updateAsObject32() {
        ObjectCalculus x = new ObjectCalculus(32, 8);
        int body = x.variable(0);
        int u = x.update(manyLiterals(x), 0, 0, body);
        due("an update as object 32", x, u, 128, ObjectCalculus.RUN_VALUE, 63, 32);
        Due.is("its origin", x.resultType(), 0);
        Due.is("its body", x.resultBody(0), body);
    }

    private static void updateAsObject33() {
        ObjectCalculus x = new ObjectCalculus(32, 8);
        int u = x.update(x.select(manyLiterals(x), 0), 0, 1, x.variable(0));
        due("an update as object 33", x, u, 128, ObjectCalculus.RUN_OUT_OF_SPACE, 65, 32);
    }

    private static void updatesUntilObject33() {
        ObjectCalculus x = new ObjectCalculus(32, 8);
        int identity = x.variable(0);
        int again = x.select(x.update(x.variable(0), 1, 1, x.variable(0)), 0);
        int o = x.object(1);
        x.addMethod(o, 0, again);
        x.addMethod(o, 1, identity);
        int s = x.select(o, 0);
        due("updates without an end", x, s, 128, ObjectCalculus.RUN_OUT_OF_SPACE, 32, 32);
        due("with just the fuel", x, s, 32, ObjectCalculus.RUN_OUT_OF_SPACE, 32, 32);
        due("with one less", x, s, 31, ObjectCalculus.RUN_OUT_OF_FUEL, 31, 32);
        due("with two less", x, s, 30, ObjectCalculus.RUN_OUT_OF_FUEL, 30, 31);
    }

    /** o.9.9... where each literal's method 9 answers the next; the roots are the literal, o.9, o.9.9, and so on. */
    private static int[] nested(ObjectCalculus x, int levels, boolean more) {
        int inner = x.object(1);
        for (int i = 1; i < levels; i++) {
            int v = more ? x.variable(0) : -1;
            int w = more ? x.variable(0) : -1;
            inner = literalWith(x, 9, inner);
            if (more) {
                x.addMethod(inner, 0, v);
                x.addMethod(inner, 15, w);
            }
        }
        int[] roots = new int[levels];
        roots[0] = inner;
        for (int i = 1; i < levels; i++) {
            roots[i] = x.select(roots[i - 1], 9);
        }
        return roots;
    }

    private static void nothingIsLeftOfAnEarlierRun() {
        ObjectCalculus x = new ObjectCalculus(32, 8);
        int[] rich = nested(x, 5, true);
        int[] poor = nested(x, 4, false);
        for (int i = 0; i < 4; i++) {
            due("a run of objects with three methods", x, rich[3], 9, ObjectCalculus.RUN_VALUE, 3, 4);
            for (int l = 0; l < 16; l++) {
                Due.is("resultBody(" + l + ") is there", x.resultBody(l) >= 0, l == 0 || l == 9 || l == 15);
            }
            due("a run of objects with one method", x, poor[i], 9, ObjectCalculus.RUN_VALUE, i, i + 1);
            for (int l = 0; l < 16; l++) {
                Due.is("resultBody(" + l + ") of object " + i, x.resultBody(l) >= 0, l == 9 && i < 3);
            }
        }
    }

    /** o.3 with 3 = s(x) [3 = s(y) [3 = s(z) x].3].3 answers its first object, after it has made two more. */
    private static void laterObjectsLeaveEarlierOnesAlone() {
        ObjectCalculus x = new ObjectCalculus(32, 8);
        int first = x.variable(0);
        int last = x.variable(0);
        int second = x.select(literalWith(x, 3, x.variable(2)), 3);
        int body = x.select(literalWith(x, 3, second), 3);
        int o = x.object(0);
        x.addMethod(o, 0, first);
        x.addMethod(o, 3, body);
        x.addMethod(o, 15, last);
        int s = x.select(o, 3);
        due("a run that answers its first object", x, s, 9, ObjectCalculus.RUN_VALUE, 3, 3);
        Due.is("its origin", x.resultType(), 0);
        for (int l = 0; l < 16; l++) {
            int want = l == 0 ? first : l == 3 ? body : l == 15 ? last : -1;
            Due.is("resultBody(" + l + ") of the first object", x.resultBody(l), want);
        }
    }

    private static void closuresKeepTheirEnvironment() {
        ObjectCalculus x = new ObjectCalculus(32, 8);
        int t = x.extendType(1, 0, 1);
        int inner = literalWith(x, 1, x.variable(1));
        int o = x.object(t);
        x.addMethod(o, 0, inner);
        int s = x.select(x.select(o, 0), 1);
        due("a literal's method names the outer self", x, s, 9, 0, 2, 2);
        Due.is("it is the outer object", x.resultType(), t);

        int u = x.update(literalWith(x, 1, x.variable(0)), 1, 1, x.variable(1));
        int body = x.select(u, 1);
        o = x.object(t);
        x.addMethod(o, 0, body);
        s = x.select(o, 0);
        due("an update's method names the outer self", x, s, 9, 0, 2, 3);
        Due.is("it is the outer object again", x.resultType(), t);

        int outerSelf = x.variable(1);
        int z = x.variable(0);
        int kept = x.object(1);
        x.addMethod(kept, 1, outerSelf);
        x.addMethod(kept, 2, z);
        body = x.select(x.update(kept, 2, 1, x.variable(0)), 1);
        o = x.object(t);
        x.addMethod(o, 0, body);
        // A first invocation on another object, so that the environment to keep is not the run's first.
        int first = literalWith(x, 3, o);
        s = x.select(x.select(first, 3), 0);
        due("the kept method keeps its environment", x, s, 9, 0, 3, 4);
        Due.is("it is the outer object once more", x.resultType(), t);
    }

    /** o.1 with 1 = s(x) (x.0 := s(y) x).0.0: the second select of 0 must meet the old method. */
    private static void updateCopies() {
        ObjectCalculus x = new ObjectCalculus(32, 8);
        int mark = x.extendType(1, 9, 1);
        int old = x.object(mark);
        int u = x.update(x.variable(0), 0, 1, x.variable(1));
        int twice = x.select(x.select(u, 0), 0);
        int o = x.object(1);
        x.addMethod(o, 0, old);
        x.addMethod(o, 1, twice);
        int s = x.select(o, 1);
        due("an update makes a copy", x, s, 9, 0, 3, 3);
        Due.is("the receiver keeps its method", x.resultType(), mark);
    }

    private static void theAnnotationsPlayNoPart() {
        ObjectCalculus x = new ObjectCalculus(32, 8);
        int t = x.extendType(1, 9, 1);
        int v = x.variable(0);
        int o = x.object(0);
        x.addMethod(o, 0, v);
        int u = x.update(o, 0, t, x.variable(0));
        int s = x.select(u, 0);
        due("an ill-typed term runs", x, s, 9, 0, 1, 2);
        Due.is("its origin", x.resultType(), t);
        Due.is("a label of the annotation alone", x.resultBody(9), -1);
        Due.is("check", x.check(s), ObjectCalculus.CK_NOT_OBJECT);
        int m = x.select(s, 9);
        due("a label of the annotation alone cannot run", x, m, 9, ObjectCalculus.RUN_MNU, 1, 2);
    }
}
