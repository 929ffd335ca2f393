/** Promise 3. */
public final class TypeMemberTest {
    public static void main(String[] args) {
        ObjectCalculus x = new ObjectCalculus(8, 32);
        int a = x.extendType(1, 0, 0);
        int b = x.extendType(a, 15, 1);
        int c = x.extendType(b, 7, b);
        int[][] due = {{a, 0, 0}, {a, 15, -1}, {b, 0, 0}, {b, 15, 1}, {b, 7, -1}, {c, 0, 0}, {c, 15, 1}, {c, 7, b}};
        for (int[] row : due) {
            Due.is("typeMember(" + row[0] + ", " + row[1] + ")", x.typeMember(row[0], row[1]), row[2]);
        }
        for (int label = -20; label < 40; label++) {
            Due.is("typeMember(TOP, " + label + ")", x.typeMember(0, label), -1);
            Due.is("typeMember(EMPTY, " + label + ")", x.typeMember(1, label), -1);
            boolean known = label == 0 || label == 7 || label == 15;
            Due.is("label " + label + " of c", x.typeMember(c, label) >= 0, known);
        }
        int[] far = {-1, -16, 5, 6, 31, 32, 64, Integer.MIN_VALUE, Integer.MAX_VALUE};
        for (int t : far) {
            Due.is("typeMember(" + t + ", 0)", x.typeMember(t, 0), -1);
            Due.is("typeMember(" + t + ", 15)", x.typeMember(t, 15), -1);
        }
        Due.is("typeMember(c, MIN)", x.typeMember(c, Integer.MIN_VALUE), -1);
        Due.is("typeMember(c, MAX)", x.typeMember(c, Integer.MAX_VALUE), -1);
        Due.is("reading added no type", x.extendType(1, 1, 1), 5);
        Due.end();
    }
}
