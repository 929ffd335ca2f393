/** Promise 13. */
public final class ResultTest {
    public static void main(String[] args) {
        ObjectCalculus x = new ObjectCalculus(32, 8);
        int t = x.extendType(1, 0, 1);
        int a = x.variable(0);
        int b = x.object(1);
        int o = x.object(t);
        x.addMethod(o, 0, a);
        x.addMethod(o, 15, b);
        int u = x.update(o, 0, 1, x.object(0));
        int body = u - 1;
        int mnu = x.select(x.object(1), 0);
        int bad = x.update(x.object(1), 0, 1, x.variable(0));
        int open = x.variable(2);
        noResult("before any run", x);
        x.run(-1, 5);
        x.run(open, 5);
        noResult("after refused runs", x);

        Due.is("run(o, 5)", x.run(o, 5), 0);
        result("a literal", x, t, a, b);
        x.run(32, 5);
        x.run(open, 5);
        result("after refused runs", x, t, a, b);
        x.check(o);
        x.check(u);
        x.select(x.object(1), 2);
        x.extendType(1, 3, 1);
        result("after other calls", x, t, a, b);
        result("reading changes nothing", x, t, a, b);

        Due.is("run(u, 5)", x.run(u, 5), 0);
        result("an update", x, 1, body, b);
        Due.is("run(mnu, 5)", x.run(mnu, 5), ObjectCalculus.RUN_MNU);
        noResult("after RUN_MNU", x);
        x.run(u, 5);
        Due.is("run(bad, 5)", x.run(bad, 5), ObjectCalculus.RUN_BAD_UPDATE);
        noResult("after RUN_BAD_UPDATE", x);
        x.run(o, 5);
        int s = x.select(u, 15);
        Due.is("run(s, 0)", x.run(s, 0), ObjectCalculus.RUN_OUT_OF_FUEL);
        noResult("after RUN_OUT_OF_FUEL", x);
        Due.is("run(s, 1)", x.run(s, 1), 0);
        Due.is("resultType() of an object without methods", x.resultType(), 1);
        for (int l = 0; l < 16; l++) {
            Due.is("resultBody(" + l + ") of an object without methods", x.resultBody(l), -1);
        }
        originTop();
        Due.end();
    }

    private static void originTop() {
        ObjectCalculus x = new ObjectCalculus(8, 8);
        int o = x.object(0);
        x.run(o, 0);
        Due.is("resultType() of an object at TOP", x.resultType(), 0);
    }

    private static void noResult(String name, ObjectCalculus x) {
        Due.is(name + ", resultType()", x.resultType(), -1);
        for (int l = -1; l <= 16; l++) {
            Due.is(name + ", resultBody(" + l + ")", x.resultBody(l), -1);
        }
    }

    private static void result(String name, ObjectCalculus x, int type, int body0, int body15) {
        Due.is(name + ", resultType()", x.resultType(), type);
        for (int l = -20; l <= 40; l++) {
            int due = l == 0 ? body0 : l == 15 ? body15 : -1;
            Due.is(name + ", resultBody(" + l + ")", x.resultBody(l), due);
        }
        Due.is(name + ", resultBody(MIN)", x.resultBody(Integer.MIN_VALUE), -1);
        Due.is(name + ", resultBody(MAX)", x.resultBody(Integer.MAX_VALUE), -1);
    }
}
