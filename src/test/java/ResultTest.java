/** Promise 13. */
public final class ResultTest {
    public static void main(String[] args) {
        literal();
        update();
        originTop();
        noRun();
        onlyRefusedRuns();
        refusedRunKeepsTheResult();
        clearedByMnu();
        clearedByBadUpdate();
        clearedByOutOfFuel();
        clearedByTooDeep();
        clearedByOutOfSpace();
        clearedByAnotherValue();
        resultAfterATrap();
        noLabel();
        labelNotThere();
        otherCallsKeepTheResult();
        readingChangesNothing();
        Due.end();
    }

    /** 2 is the literal [0 = s(x) x, 15 = s(x) []] at the type 2; 4 is its update 2.0 := s(x) [] at EMPTY. */
    private static ObjectCalculus withTerms() {
        ObjectCalculus x = new ObjectCalculus(32, 8);
        x.extendType(1, 0, 1);
        x.variable(0);
        x.object(1);
        x.object(2);
        x.addMethod(2, 0, 0);
        x.addMethod(2, 15, 1);
        x.object(0);
        Due.is("the update", x.update(2, 0, 1, 3), 4);
        return x;
    }

    private static void result(String name, ObjectCalculus x, int type, int body0, int body15) {
        Due.is(name + ", resultType()", x.resultType(), type);
        for (int l = -40; l <= 600; l++) {
            int due = l == 0 ? body0 : l == 15 ? body15 : -1;
            Due.is(name + ", resultBody(" + l + ")", x.resultBody(l), due);
        }
    }

    private static void noResult(String name, ObjectCalculus x) {
        result(name, x, -1, -1, -1);
    }

    private static void literal() {
        ObjectCalculus x = withTerms();
        Due.is("run of a literal", x.run(2, 5), ObjectCalculus.RUN_VALUE);
        result("a literal", x, 2, 0, 1);
    }

    private static void update() {
        ObjectCalculus x = withTerms();
        Due.is("run of an update", x.run(4, 5), ObjectCalculus.RUN_VALUE);
        result("an update", x, 1, 3, 1);
    }

    private static void originTop() {
        ObjectCalculus x = new ObjectCalculus(8, 8);
        int o = x.object(0);
        x.run(o, 0);
        Due.is("resultType() of an object at TOP", x.resultType(), 0);
    }

    private static void noRun() {
        noResult("before any run", new ObjectCalculus(8, 8));
        ObjectCalculus x = withTerms();
        x.check(2);
        x.check(4);
        noResult("after checks alone", x);
    }

    private static void onlyRefusedRuns() {
        ObjectCalculus x = withTerms();
        x.run(0, 5);
        x.run(-1, 5);
        x.run(5, 5);
        noResult("after refused runs alone", x);
    }

    private static void refusedRunKeepsTheResult() {
        ObjectCalculus x = withTerms();
        x.run(2, 5);
        Due.is("an open root", x.run(0, 5), ObjectCalculus.RUN_OPEN);
        result("after an open root", x, 2, 0, 1);
        Due.is("a bad root", x.run(32, 5), ObjectCalculus.RUN_BAD_ROOT);
        result("after a bad root", x, 2, 0, 1);
    }

    /** A run with a result, then one without. */
    private static void cleared(String name, ObjectCalculus x, int root, int fuel, int outcome) {
        Due.is("run of an update", x.run(4, 5), ObjectCalculus.RUN_VALUE);
        Due.is(name, x.run(root, fuel), outcome);
        noResult("after " + name, x);
    }

    private static void clearedByMnu() {
        ObjectCalculus x = withTerms();
        cleared("RUN_MNU", x, x.select(x.object(1), 0), 5, ObjectCalculus.RUN_MNU);
        x.run(-1, 5);
        noResult("after RUN_MNU and a refused run", x);
    }

    private static void clearedByBadUpdate() {
        ObjectCalculus x = withTerms();
        int u = x.update(x.object(1), 0, 1, x.variable(0));
        cleared("RUN_BAD_UPDATE", x, u, 5, ObjectCalculus.RUN_BAD_UPDATE);
    }

    private static void clearedByOutOfFuel() {
        ObjectCalculus x = withTerms();
        cleared("RUN_OUT_OF_FUEL", x, x.select(4, 15), 0, ObjectCalculus.RUN_OUT_OF_FUEL);
    }

    private static void clearedByTooDeep() {
        ObjectCalculus x = withTerms();
        int again = x.select(x.variable(0), 0);
        int o = x.object(1);
        x.addMethod(o, 0, again);
        cleared("RUN_TOO_DEEP", x, x.select(o, 0), 128, ObjectCalculus.RUN_TOO_DEEP);
    }

    private static void clearedByOutOfSpace() {
        ObjectCalculus x = withTerms();
        int again = x.select(x.update(x.variable(0), 0, 1, x.variable(0)), 1);
        int identity = x.variable(0);
        int o = x.object(1);
        x.addMethod(o, 0, identity);
        x.addMethod(o, 1, again);
        cleared("RUN_OUT_OF_SPACE", x, x.select(o, 1), 128, ObjectCalculus.RUN_OUT_OF_SPACE);
    }

    private static void clearedByAnotherValue() {
        ObjectCalculus x = withTerms();
        x.run(4, 5);
        Due.is("run of a literal without methods", x.run(1, 5), ObjectCalculus.RUN_VALUE);
        result("another value", x, 1, -1, -1);
        x.run(2, 5);
        result("a third value", x, 2, 0, 1);
    }

    private static void resultAfterATrap() {
        ObjectCalculus x = withTerms();
        int s = x.select(x.object(1), 0);
        x.run(s, 5);
        noResult("after RUN_MNU", x);
        x.run(2, 5);
        result("a value after RUN_MNU", x, 2, 0, 1);
    }

    /** The result is the second of a run's three objects; the first has label 15 and the last has label 0. */
    private static void noLabel() {
        ObjectCalculus x = new ObjectCalculus(32, 8);
        int t = x.extendType(1, 9, 1);
        int middleSelf = x.variable(1);
        int self = x.variable(0);
        int last = x.object(1);
        x.addMethod(last, 9, middleSelf);
        x.addMethod(last, 0, self);
        int body = x.select(last, 9);
        int middle = x.object(t);
        x.addMethod(middle, 9, body);
        int outerBody = x.select(middle, 9);
        int first = x.object(1);
        x.addMethod(first, 15, outerBody);
        Due.is("run", x.run(x.select(first, 15), 5), ObjectCalculus.RUN_VALUE);
        Due.is("its objects", x.objectsCreated(), 3);
        Due.is("resultType()", x.resultType(), t);
        Due.is("resultBody(9)", x.resultBody(9), body);
        for (int l : Outside.SIXTEEN) {
            Due.is("resultBody(" + l + ") between two objects", x.resultBody(l), -1);
        }
    }

    private static void labelNotThere() {
        ObjectCalculus x = withTerms();
        x.run(1, 5);
        for (int l = 0; l < 16; l++) {
            Due.is("resultBody(" + l + ") of an object without methods", x.resultBody(l), -1);
        }
        x.run(2, 5);
        for (int l = 1; l < 15; l++) {
            Due.is("resultBody(" + l + ") of the labels 0 and 15", x.resultBody(l), -1);
        }
    }

    private static void otherCallsKeepTheResult() {
        ObjectCalculus x = withTerms();
        x.run(2, 5);
        x.check(2);
        x.check(4);
        x.select(x.object(1), 2);
        x.extendType(1, 3, 1);
        x.variable(0);
        result("after other calls", x, 2, 0, 1);
    }

    private static void readingChangesNothing() {
        Twin.changesNothing("resultType()", Scene::make, ObjectCalculus::resultType, Scene.ONE);
        Twin.changesNothing("resultBody(0)", Scene::make, x -> x.resultBody(0), Scene.TAKEN_VAR);
        for (int l : new int[] {1, 15, -1, 16, Integer.MIN_VALUE, Integer.MAX_VALUE}) {
            Twin.changesNothing("resultBody(" + l + ")", Scene::make, x -> x.resultBody(l), -1);
        }
    }
}
