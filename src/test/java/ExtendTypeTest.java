import java.util.List;
import java.util.function.Supplier;
import java.util.function.ToIntFunction;

/** Promise 2. */
public final class ExtendTypeTest {
    /** The type with the labels 0, 2, .. 14 in past(). */
    private static final int EIGHT = Scene.TYPES + 6;
    private static final int PAST_TYPES = EIGHT + 1;

    public static void main(String[] args) {
        newTypesCountFromTwo();
        noType();
        top();
        noLabel();
        noMember();
        notItsOwnMember();
        labelTwice();
        nineLabels();
        refusalsTogether();
        refusalsInAFullTable();
        knownType();
        knownTypeInAFullTable();
        newTypeInAFullTable();
        theLastPlace();
        eightLabels();
        anyOrderGivesOneId();
        eightLabelsInAnyOrder();
        anotherOrderInAFullTable();
        anotherMemberGivesAnotherId();
        olderTypesStay();
        leavesTheRestAlone();
        Due.end();
    }

    /** The scene with seven types more, so that the last has the eight even labels. */
    private static ObjectCalculus past() {
        ObjectCalculus x = Scene.make();
        int t = Scene.ONE;
        for (int label = 2; label <= 14; label += 2) {
            t = x.extendType(t, label, 1);
        }
        return x;
    }

    private static void refused(Supplier<ObjectCalculus> past, int t, int label, int member) {
        String call = "extendType(" + t + ", " + label + ", " + member + ")";
        Twin.changesNothing(call, past, x -> x.extendType(t, label, member), -1);
    }

    private static void newTypesCountFromTwo() {
        ObjectCalculus x = new ObjectCalculus(8, 32);
        Due.is("[0:EMPTY]", x.extendType(1, 0, 1), 2);
        Due.is("[0:TOP]", x.extendType(1, 0, 0), 3);
        Due.is("[15:[0:EMPTY]]", x.extendType(1, 15, 2), 4);
        Due.is("[0:EMPTY, 15:[0:TOP]]", x.extendType(2, 15, 3), 5);
        Due.is("typeMember(5, 0)", x.typeMember(5, 0), 1);
        Due.is("typeMember(5, 15)", x.typeMember(5, 15), 3);
        Due.is("a member with the greatest id", x.extendType(1, 7, 5), 6);
    }

    private static void noType() {
        for (int t : Outside.of(PAST_TYPES)) {
            refused(ExtendTypeTest::past, t, 1, 1);
        }
    }

    private static void top() {
        for (int label = 0; label < 16; label++) {
            refused(ExtendTypeTest::past, ObjectCalculus.TOP, label, 1);
        }
    }

    private static void noLabel() {
        for (int label : Outside.SIXTEEN) {
            refused(ExtendTypeTest::past, 1, label, 1);
            refused(ExtendTypeTest::past, Scene.TWO, label, 1);
        }
        ObjectCalculus x = past();
        Due.is("the label 0 is one", x.extendType(Scene.LAST, 0, 1) >= 0, true);
        Due.is("the label 15 is one", x.extendType(Scene.ONE, 15, 1) >= 0, true);
    }

    private static void noMember() {
        for (int member : Outside.of(PAST_TYPES)) {
            refused(ExtendTypeTest::past, 1, 1, member);
        }
    }

    /** A member type always has a smaller id than its owner. */
    private static void notItsOwnMember() {
        refused(() -> new ObjectCalculus(8, 8), 1, 0, 2);
        refused(ExtendTypeTest::past, 1, 1, PAST_TYPES);
    }

    private static void labelTwice() {
        // With the same member the extended type would be t itself, which is no reason to answer it.
        refused(ExtendTypeTest::past, Scene.ONE, 0, 1);
        refused(ExtendTypeTest::past, Scene.ONE, 0, 0);
        refused(ExtendTypeTest::past, Scene.TWO, 15, Scene.ONE);
        refused(ExtendTypeTest::past, Scene.TWO, 15, 1);
        refused(ExtendTypeTest::past, EIGHT, 14, 1);
        refused(ExtendTypeTest::past, EIGHT, 0, 0);
    }

    private static void nineLabels() {
        for (int label = 1; label < 16; label += 2) {
            refused(ExtendTypeTest::past, EIGHT, label, 1);
        }
    }

    /** Every combination of the six conditions that can hold at once is refused like each of them. */
    private static void refusalsTogether() {
        Twin.changesNothing("every refused extendType", ExtendTypeTest::past, wrongAnswers(PAST_TYPES), 0);
    }

    private static void refusalsInAFullTable() {
        int types = Scene.TYPES + 3;
        String name = "every refused extendType in a full table";
        Twin.changesNothing(name, Scene::makeWithFullTypes, wrongAnswers(types), 0);
        refused(Scene::makeWithFullTypes, Scene.ONE, 0, 1);
        refused(Scene::makeWithFullTypes, 1, 0, types);
    }

    private static ToIntFunction<ObjectCalculus> wrongAnswers(int types) {
        return x -> {
            int wrong = 0;
            for (int t = -1; t <= types; t++) {
                for (int label = -1; label <= 16; label++) {
                    for (int member = -1; member <= types; member++) {
                        boolean bad = mustRefuse(x, types, t, label, member);
                        wrong += bad && x.extendType(t, label, member) != -1 ? 1 : 0;
                    }
                }
            }
            return wrong;
        };
    }

    private static boolean mustRefuse(ObjectCalculus x, int types, int t, int label, int member) {
        if (t < 0 || t >= types || t == 0 || label < 0 || label > 15 || member < 0 || member >= types) {
            return true;
        }
        int labels = 0;
        for (int l = 0; l < 16; l++) {
            labels += x.typeMember(t, l) >= 0 ? 1 : 0;
        }
        return x.typeMember(t, label) >= 0 || labels == 8;
    }

    private static void knownType() {
        Twin.changesNothing("[0:EMPTY] again", Scene::make, x -> x.extendType(1, 0, 1), Scene.ONE);
        Twin.changesNothing("[15:TOP] again", Scene::make, x -> x.extendType(1, 15, 0), Scene.LAST);
        Twin.changesNothing("TWO again", Scene::make, x -> x.extendType(Scene.ONE, 15, Scene.ONE), Scene.TWO);
    }

    private static void knownTypeInAFullTable() {
        Supplier<ObjectCalculus> full = Scene::makeWithFullTypes;
        Twin.changesNothing("[0:EMPTY], full", full, x -> x.extendType(1, 0, 1), Scene.ONE);
        Twin.changesNothing("TWO, full", full, x -> x.extendType(Scene.ONE, 15, Scene.ONE), Scene.TWO);
        Twin.changesNothing("the last type, full", full, x -> x.extendType(1, 14, 2), Scene.TYPES + 2);
    }

    private static void newTypeInAFullTable() {
        refused(Scene::makeWithFullTypes, 1, 0, 0);
        refused(Scene::makeWithFullTypes, 1, 14, 3);
        refused(Scene::makeWithFullTypes, Scene.TWO, 7, 1);
        for (int typeCap : new int[] {8, 9, 31, 32}) {
            ObjectCalculus x = new ObjectCalculus(8, typeCap);
            for (int t = 2; t < typeCap; t++) {
                x.extendType(1, 0, t - 1);
            }
            Due.is("a new type behind " + typeCap, x.extendType(1, 1, 0), -1);
        }
    }

    private static void theLastPlace() {
        for (int typeCap : new int[] {8, 9, 31, 32}) {
            ObjectCalculus x = new ObjectCalculus(8, typeCap);
            for (int t = 2; t < typeCap - 1; t++) {
                x.extendType(1, 0, t - 1);
            }
            Due.is("the last place of " + typeCap, x.extendType(2, 15, 0), typeCap - 1);
            Due.is("its label 15", x.typeMember(typeCap - 1, 15), 0);
            Due.is("its label 0", x.typeMember(typeCap - 1, 0), 1);
            Due.is("the same type again", x.extendType(2, 15, 0), typeCap - 1);
        }
    }

    private static void eightLabels() {
        ObjectCalculus x = new ObjectCalculus(8, 32);
        int t = 1;
        for (int i = 0; i < 8; i++) {
            t = x.extendType(t, 15 - 2 * i, i % 2);
            Due.is("label " + (i + 1) + " of 8", t, i + 2);
        }
        for (int l = 0; l < 16; l++) {
            Due.is("label " + l + " of the type with eight", x.typeMember(t, l), l % 2 == 0 ? -1 : (15 - l) / 2 % 2);
        }
        Due.is("the type with eight is known", x.extendType(t - 1, 1, 1), t);
        Due.is("a ninth label", x.extendType(t, 0, 1), -1);
    }

    private static void anyOrderGivesOneId() {
        int[][] orders = {{3, 7, 9}, {3, 9, 7}, {7, 3, 9}, {7, 9, 3}, {9, 3, 7}, {9, 7, 3}};
        ObjectCalculus x = new ObjectCalculus(8, 32);
        int first = -1;
        for (int[] order : orders) {
            int t = 1;
            for (int label : order) {
                t = x.extendType(t, label, label == 7 ? 0 : 1);
            }
            first = first < 0 ? t : first;
            Due.is("[3:EMPTY, 7:TOP, 9:EMPTY] in another order", t, first);
        }
        Due.is("count after all orders", x.extendType(1, 0, 1), 9);
    }

    private static void eightLabelsInAnyOrder() {
        ObjectCalculus x = new ObjectCalculus(8, 32);
        int up = 1;
        int down = 1;
        for (int i = 0; i < 8; i++) {
            up = x.extendType(up, i, i % 2);
        }
        for (int i = 7; i >= 0; i--) {
            down = x.extendType(down, i, i % 2);
        }
        Due.is("eight labels upwards", up, 9);
        Due.is("eight labels downwards", down, up);
    }

    /** A full table can still make an intermediate step answer -1. */
    private static void anotherOrderInAFullTable() {
        ObjectCalculus x = new ObjectCalculus(8, 8);
        int both = x.extendType(x.extendType(1, 0, 1), 1, 1);
        for (int label = 10; label < 14; label++) {
            x.extendType(1, label, 1);
        }
        Due.is("the intermediate step", x.extendType(1, 1, 1), -1);
        Due.is("the order that is there", x.extendType(x.extendType(1, 0, 1), 1, 1), both);
    }

    private static void anotherMemberGivesAnotherId() {
        ObjectCalculus x = new ObjectCalculus(8, 32);
        Due.is("[5:TOP]", x.extendType(1, 5, 0), 2);
        Due.is("[5:EMPTY]", x.extendType(1, 5, 1), 3);
        Due.is("[5:[5:TOP]]", x.extendType(1, 5, 2), 4);
        Due.is("[5:TOP, 6:TOP]", x.extendType(2, 6, 0), 5);
        Due.is("[5:TOP, 6:EMPTY]", x.extendType(2, 6, 1), 6);
        Due.is("[5:EMPTY, 6:TOP]", x.extendType(3, 6, 0), 7);
        Due.is("[6:TOP]", x.extendType(1, 6, 0), 8);
        Due.is("[5:TOP] again", x.extendType(1, 5, 0), 2);
    }

    private static void olderTypesStay() {
        List<Twin.Part> parts = List.of(Twin::sceneTypes);
        Twin.keeps("[7:LAST]", Scene::make, x -> x.extendType(1, 7, Scene.LAST), Scene.TYPES, parts);
        Twin.keeps("TWO with the label 7", Scene::make, x -> x.extendType(Scene.TWO, 7, 0), Scene.TYPES, parts);
    }

    private static void leavesTheRestAlone() {
        List<Twin.Part> parts = List.of(Twin::parents, Twin::errorNode, Twin::result, Twin::terms);
        Twin.keeps("a new type", Scene::make, x -> x.extendType(1, 7, Scene.LAST), Scene.TYPES, parts);
        Twin.keeps("a known type", Scene::make, x -> x.extendType(1, 0, 1), Scene.ONE, parts);
    }
}
