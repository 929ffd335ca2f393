/** Promise 4. */
public final class SubtypeTest {
    public static void main(String[] args) {
        ObjectCalculus x = new ObjectCalculus(8, 32);
        int a = x.extendType(1, 0, 1);
        int ab = x.extendType(a, 1, 1);
        int top0 = x.extendType(1, 0, 0);
        int deep = x.extendType(1, 0, a);
        int b = x.extendType(1, 1, 1);
        int count = 7;
        Due.is("the last type", b, count - 1);
        boolean[][] due = new boolean[count][count];
        for (int t = 0; t < count; t++) {
            due[t][t] = true;
            due[t][0] = true;
            due[t][1] = t != 0;
        }
        due[ab][a] = true;
        due[ab][b] = true;
        for (int s = 0; s < count; s++) {
            for (int t = 0; t < count; t++) {
                Due.is("isSubtype(" + s + ", " + t + ")", x.isSubtype(s, t), due[s][t]);
            }
        }
        Due.is("no depth subtyping to [0:TOP]", x.isSubtype(a, top0), false);
        Due.is("no depth subtyping to [0:EMPTY]", x.isSubtype(deep, a), false);
        int[] noType = {-1, count, 31, 32, Integer.MIN_VALUE, Integer.MAX_VALUE};
        for (int t : noType) {
            Due.is("isSubtype(" + t + ", itself)", x.isSubtype(t, t), false);
            Due.is("isSubtype(" + t + ", TOP)", x.isSubtype(t, 0), false);
            Due.is("isSubtype(" + t + ", EMPTY)", x.isSubtype(t, 1), false);
            Due.is("isSubtype(a, " + t + ")", x.isSubtype(a, t), false);
            Due.is("isSubtype(TOP, " + t + ")", x.isSubtype(0, t), false);
        }
        Due.is("asking added no type", x.extendType(1, 2, 1), count);
        Due.end();
    }
}
