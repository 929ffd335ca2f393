/**
 * A state in which there is something of everything that a call could disturb: types, each kind of node
 * with and without a parent, an error node, a result, and counters that are not 0.
 */
final class Scene {
    static final int TYPES = 5;
    static final int ONE = 2;       // [0:EMPTY]
    static final int TWO = 3;       // [0:EMPTY, 15:ONE]
    static final int LAST = 4;      // [15:TOP]

    static final int NODES = 13;
    static final int TAKEN_VAR = 0; // a child of TAKEN_OBJ
    static final int TAKEN_OBJ = 1; // [0 = s(x) x] at ONE, a child of SEL
    static final int SEL = 2;       // TAKEN_OBJ.0
    static final int UPD = 6;       // [0 = s(x) []].0 := s(x) x at ONE
    static final int OPEN_VAR = 7;  // the variable 3
    static final int VAR = 8;       // the variable 0
    static final int EMPTY_OBJ = 9; // [] at EMPTY
    static final int OBJ = 11;      // [15 = s(x) x] at TWO, so that label 0 is missing
    static final int LATE_VAR = 12; // the variable 0

    private Scene() {
    }

    static ObjectCalculus make() {
        return make(32, 32);
    }

    static ObjectCalculus make(int nodeCap, int typeCap) {
        ObjectCalculus x = new ObjectCalculus(nodeCap, typeCap);
        x.extendType(1, 0, 1);
        x.extendType(ONE, 15, ONE);
        x.extendType(1, 15, 0);
        x.variable(0);
        x.object(ONE);
        x.addMethod(TAKEN_OBJ, 0, TAKEN_VAR);
        x.select(TAKEN_OBJ, 0);
        x.variable(0);
        x.object(1);
        x.object(ONE);
        x.addMethod(5, 0, 4);
        x.update(5, 0, ONE, 3);
        x.variable(3);
        x.variable(0);
        x.object(1);
        x.variable(0);
        x.object(TWO);
        x.addMethod(OBJ, 15, 10);
        x.variable(0);
        x.check(OPEN_VAR);
        x.run(SEL, 9);
        return x;
    }

    /** The same with no place left for a node. */
    static ObjectCalculus makeWithFullNodes() {
        return make(NODES, 32);
    }

    /** The same with no place left for a type: the table's last three are of the label 14 alone. */
    static ObjectCalculus makeWithFullTypes() {
        ObjectCalculus x = make(32, TYPES + 3);
        for (int member = 0; member < 3; member++) {
            x.extendType(1, 14, member);
        }
        return x;
    }
}
