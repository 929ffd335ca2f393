/** A workbench that types and runs terms of a first-order object calculus with width subtyping. */
public final class ObjectCalculus {
    public static final int TOP = 0;
    public static final int EMPTY = 1;
    public static final int MAX_LABEL = 15;
    public static final int MAX_VAR = 15;
    public static final int MAX_MEMBERS = 8;
    public static final int MAX_DEPTH = 48;
    public static final int MAX_OBJECTS = 32;
    public static final int MAX_FUEL = 128;

    public static final int CK_BAD_ROOT = -1;
    public static final int CK_UNBOUND = -2;
    public static final int CK_NOT_OBJECT = -3;
    public static final int CK_NO_LABEL = -4;
    public static final int CK_LABELS = -5;
    public static final int CK_RECEIVER = -6;
    public static final int CK_BODY = -7;

    public static final int RUN_VALUE = 0;
    public static final int RUN_MNU = 1;
    public static final int RUN_BAD_UPDATE = 2;
    public static final int RUN_OUT_OF_FUEL = 3;
    public static final int RUN_TOO_DEEP = 4;
    public static final int RUN_OUT_OF_SPACE = 5;
    public static final int RUN_BAD_ROOT = 6;
    public static final int RUN_OPEN = 7;

    private static final int NONE = -1;
    private static final int MIN_CAP = 8;
    private static final int MAX_CAP = 32;
    private static final int LABELS = 16;

    // Arrays by type or object and label have 32 * 16 cells, those by node and method 32 * 8.
    private static final int LABEL_CELLS = 512;
    private static final int METHOD_CELLS = 256;

    private static final int KIND_VAR = 0;
    private static final int KIND_OBJ = 1;
    private static final int KIND_SEL = 2;
    private static final int KIND_UPD = 3;

    // Apart from every type and every CK_ constant: the node's rule needs the type of one more child.
    private static final int PENDING = -100;

    // A check comes to each node once from above and once from each child: below 2 * 32 times.
    private static final int CHECK_STEPS = 64;

    // A run needs below 129 * 32 * 3 steps: three for a node, and at most one descent through
    // receivers for the root and for each invocation.
    private static final int RUN_STEPS = 1000000;

    private static final int PHASE_ENTERED = 0;
    private static final int PHASE_RECEIVER = 1;
    private static final int PHASE_BODY = 2;

    private final int nodeCap;
    private final int typeCap;

    private int typeCount = 2;
    private final int[] memberType = new int[LABEL_CELLS];
    private final int[] memberCount = new int[MAX_CAP];

    private int nodeCount = 0;
    private final int[] nodeKind = new int[MAX_CAP];
    private final int[] parentOf = new int[MAX_CAP];
    // The index of a VAR, the label of a SEL or UPD.
    private final int[] nodeNumber = new int[MAX_CAP];
    private final int[] annotation = new int[MAX_CAP];
    private final int[] receiverOf = new int[MAX_CAP];
    private final int[] bodyOf = new int[MAX_CAP];
    private final int[] methodCount = new int[MAX_CAP];
    private final int[] methodLabel = new int[METHOD_CELLS];
    private final int[] methodBody = new int[METHOD_CELLS];

    private int failedNode = NONE;
    private final int[] childrenDone = new int[MAX_CAP];

    private int result = NONE;
    private int fuelLimit = 0;
    private int used = 0;
    private int created = 0;

    // Objects keep their own copy of the methods, as a literal can gain methods after a run.
    private final int[] closureBody = new int[LABEL_CELLS];
    private final int[] closureEnv = new int[LABEL_CELLS];
    private final int[] origin = new int[MAX_OBJECTS];

    // An environment is its innermost cell, or NONE; each invocation makes one cell.
    private final int[] cellObject = new int[MAX_FUEL];
    private final int[] cellRest = new int[MAX_FUEL];

    // The frame at index d - 1 is the evaluation under way at depth d.
    private int frameCount = 0;
    private int value = NONE;
    private final int[] frameNode = new int[MAX_DEPTH];
    private final int[] frameEnv = new int[MAX_DEPTH];
    private final int[] framePhase = new int[MAX_DEPTH];

    public ObjectCalculus(int nodeCap, int typeCap) {
        this.nodeCap = clamp(nodeCap, MIN_CAP, MAX_CAP);
        this.typeCap = clamp(typeCap, MIN_CAP, MAX_CAP);
        for (int i = 0; i < LABEL_CELLS; i++) {
            memberType[i] = NONE;
        }
    }

    public int extendType(int t, int label, int member) {
        if (!isType(t) || t == TOP || !isLabel(label) || !isType(member)) {
            return NONE;
        }
        if (memberType[t * LABELS + label] != NONE || memberCount[t] >= MAX_MEMBERS) {
            return NONE;
        }
        for (int id = 0; id < typeCount; id++) {
            if (isExtension(id, t, label, member)) {
                return id;
            }
        }
        if (typeCount >= typeCap) {
            return NONE;
        }
        return newType(t, label, member);
    }

    public int typeMember(int t, int label) {
        if (!isType(t) || !isLabel(label)) {
            return NONE;
        }
        return memberType[t * LABELS + label];
    }

    public boolean isSubtype(int a, int b) {
        return isType(a) && isType(b) && fits(a, b);
    }

    public int variable(int k) {
        if (k < 0 || k > MAX_VAR || nodeCount >= nodeCap) {
            return NONE;
        }
        return newNode(KIND_VAR, k, NONE);
    }

    public int object(int a) {
        if (!isType(a) || nodeCount >= nodeCap) {
            return NONE;
        }
        return newNode(KIND_OBJ, NONE, a);
    }

    public boolean addMethod(int obj, int label, int body) {
        if (!isNode(obj) || nodeKind[obj] != KIND_OBJ || !isLabel(label)) {
            return false;
        }
        if (!isLoose(body) || body >= obj) {
            return false;
        }
        if (hasMethod(obj, label) || methodCount[obj] >= MAX_MEMBERS) {
            return false;
        }
        int cell = obj * MAX_MEMBERS + methodCount[obj];
        methodLabel[cell] = label;
        methodBody[cell] = body;
        methodCount[obj]++;
        parentOf[body] = obj;
        return true;
    }

    public int select(int a, int label) {
        if (!isLoose(a) || !isLabel(label) || nodeCount >= nodeCap) {
            return NONE;
        }
        int n = newNode(KIND_SEL, label, NONE);
        receiverOf[n] = a;
        parentOf[a] = n;
        return n;
    }

    public int update(int a, int label, int type, int body) {
        if (!isLoose(a) || !isLoose(body) || a == body) {
            return NONE;
        }
        if (!isLabel(label) || !isType(type) || nodeCount >= nodeCap) {
            return NONE;
        }
        int n = newNode(KIND_UPD, label, type);
        receiverOf[n] = a;
        bodyOf[n] = body;
        parentOf[a] = n;
        parentOf[body] = n;
        return n;
    }

    public int nodeParent(int n) {
        return isNode(n) ? parentOf[n] : NONE;
    }

    public int check(int r) {
        failedNode = NONE;
        return isNode(r) ? typeOfTerm(r) : CK_BAD_ROOT;
    }

    public int errorNode() {
        return failedNode;
    }

    public int run(int r, int fuel) {
        if (!isNode(r)) {
            return RUN_BAD_ROOT;
        }
        if (!isClosed(r)) {
            return RUN_OPEN;
        }
        fuelLimit = clamp(fuel, 0, MAX_FUEL);
        result = NONE;
        used = 0;
        created = 0;
        frameCount = 0;
        return evaluate(r);
    }

    public int resultBody(int label) {
        if (result == NONE || !isLabel(label)) {
            return NONE;
        }
        return closureBody[result * LABELS + label];
    }

    public int resultType() {
        return result == NONE ? NONE : origin[result];
    }

    public int fuelUsed() {
        return used;
    }

    public int objectsCreated() {
        return created;
    }

    private static int clamp(int number, int least, int most) {
        if (number < least) {
            return least;
        }
        return number > most ? most : number;
    }

    private static boolean isLabel(int label) {
        return label >= 0 && label <= MAX_LABEL;
    }

    private boolean isType(int t) {
        return t >= 0 && t < typeCount;
    }

    private boolean isNode(int n) {
        return n >= 0 && n < nodeCount;
    }

    private boolean isLoose(int n) {
        return isNode(n) && parentOf[n] == NONE;
    }

    private boolean isExtension(int id, int t, int label, int member) {
        for (int l = 0; l < LABELS; l++) {
            int due = l == label ? member : memberType[t * LABELS + l];
            if (memberType[id * LABELS + l] != due) {
                return false;
            }
        }
        return true;
    }

    private int newType(int t, int label, int member) {
        int id = typeCount;
        for (int l = 0; l < LABELS; l++) {
            memberType[id * LABELS + l] = memberType[t * LABELS + l];
        }
        memberType[id * LABELS + label] = member;
        memberCount[id] = memberCount[t] + 1;
        typeCount++;
        return id;
    }

    /** The subtype relation on two ids of the table. */
    private boolean fits(int a, int b) {
        if (a == b || b == TOP) {
            return true;
        }
        if (a == TOP) {
            return false;
        }
        for (int l = 0; l < LABELS; l++) {
            int due = memberType[b * LABELS + l];
            if (due != NONE && memberType[a * LABELS + l] != due) {
                return false;
            }
        }
        return true;
    }

    private int newNode(int kind, int number, int type) {
        int n = nodeCount;
        nodeKind[n] = kind;
        nodeNumber[n] = number;
        annotation[n] = type;
        parentOf[n] = NONE;
        receiverOf[n] = NONE;
        bodyOf[n] = NONE;
        nodeCount++;
        return n;
    }

    private boolean hasMethod(int obj, int label) {
        for (int i = 0; i < methodCount[obj]; i++) {
            if (methodLabel[obj * MAX_MEMBERS + i] == label) {
                return true;
            }
        }
        return false;
    }

    /** The OBJ or UPD node whose binder a VAR node names within the term root, or NONE if it is free. */
    private int binderOf(int variable, int root) {
        int bindersToPass = nodeNumber[variable];
        int n = variable;
        for (int i = 0; i < MAX_CAP && n != root; i++) {
            int parent = parentOf[n];
            if (parent == NONE) {
                return NONE;
            }
            if (bindsIn(parent, n)) {
                if (bindersToPass == 0) {
                    return parent;
                }
                bindersToPass--;
            }
            n = parent;
        }
        return NONE;
    }

    private boolean bindsIn(int parent, int child) {
        return nodeKind[parent] == KIND_OBJ || bodyOf[parent] == child;
    }

    private boolean liesIn(int node, int root) {
        int n = node;
        for (int i = 0; i < MAX_CAP && n != NONE; i++) {
            if (n == root) {
                return true;
            }
            n = parentOf[n];
        }
        return false;
    }

    private boolean isClosed(int root) {
        for (int n = 0; n < nodeCount; n++) {
            if (nodeKind[n] == KIND_VAR && liesIn(n, root) && binderOf(n, root) == NONE) {
                return false;
            }
        }
        return true;
    }

    /** Walks the term along its parent links, so that no stack is needed. */
    private int typeOfTerm(int root) {
        int n = root;
        int childType = NONE;
        childrenDone[n] = 0;
        for (int step = 0; step < CHECK_STEPS; step++) {
            int verdict = verdictAt(n, childType, root);
            if (verdict == PENDING) {
                n = nextChild(n);
                childrenDone[n] = 0;
            } else if (verdict < 0) {
                failedNode = n;
                return verdict;
            } else if (n == root) {
                return verdict;
            } else {
                childType = verdict;
                n = parentOf[n];
                childrenDone[n]++;
            }
        }
        return CK_BAD_ROOT;
    }

    private int nextChild(int n) {
        if (nodeKind[n] == KIND_OBJ) {
            return methodBody[n * MAX_MEMBERS + childrenDone[n]];
        }
        return childrenDone[n] == 0 ? receiverOf[n] : bodyOf[n];
    }

    /** The type of n, its CK_ error, or PENDING; childType is the type of the child that was done last. */
    private int verdictAt(int n, int childType, int root) {
        switch (nodeKind[n]) {
            case KIND_VAR:
                return variableVerdict(n, root);
            case KIND_OBJ:
                return objectVerdict(n, childType);
            case KIND_SEL:
                return selectVerdict(n, childType);
            default:
                return updateVerdict(n, childType);
        }
    }

    private int variableVerdict(int n, int root) {
        int binder = binderOf(n, root);
        return binder == NONE ? CK_UNBOUND : annotation[binder];
    }

    private int objectVerdict(int n, int childType) {
        int type = annotation[n];
        int done = childrenDone[n];
        if (type == TOP) {
            return CK_NOT_OBJECT;
        }
        if (!hasLabelsOf(n, type)) {
            return CK_LABELS;
        }
        if (done > 0) {
            int label = methodLabel[n * MAX_MEMBERS + done - 1];
            if (!fits(childType, memberType[type * LABELS + label])) {
                return CK_BODY;
            }
        }
        return done < methodCount[n] ? PENDING : type;
    }

    private boolean hasLabelsOf(int obj, int type) {
        if (methodCount[obj] != memberCount[type]) {
            return false;
        }
        for (int i = 0; i < methodCount[obj]; i++) {
            int label = methodLabel[obj * MAX_MEMBERS + i];
            if (memberType[type * LABELS + label] == NONE) {
                return false;
            }
        }
        return true;
    }

    private int selectVerdict(int n, int childType) {
        if (childrenDone[n] == 0) {
            return PENDING;
        }
        if (childType == TOP) {
            return CK_NOT_OBJECT;
        }
        int member = memberType[childType * LABELS + nodeNumber[n]];
        return member == NONE ? CK_NO_LABEL : member;
    }

    private int updateVerdict(int n, int childType) {
        // The receiver's own error goes before every test of the annotation.
        if (childrenDone[n] == 0) {
            return PENDING;
        }
        int type = annotation[n];
        if (type == TOP) {
            return CK_NOT_OBJECT;
        }
        int member = memberType[type * LABELS + nodeNumber[n]];
        if (member == NONE) {
            return CK_NO_LABEL;
        }
        if (childrenDone[n] == 1) {
            return fits(childType, type) ? PENDING : CK_RECEIVER;
        }
        return fits(childType, member) ? type : CK_BODY;
    }

    private int evaluate(int root) {
        int outcome = enter(root, NONE);
        for (int step = 0; step < RUN_STEPS && outcome == RUN_VALUE && frameCount > 0; step++) {
            outcome = advance();
        }
        if (outcome == RUN_VALUE) {
            result = value;
        }
        return outcome;
    }

    /** As every step of the machine does, answers RUN_VALUE as long as the run may go on. */
    private int enter(int n, int env) {
        if (frameCount >= MAX_DEPTH) {
            return RUN_TOO_DEEP;
        }
        frameNode[frameCount] = n;
        frameEnv[frameCount] = env;
        framePhase[frameCount] = PHASE_ENTERED;
        frameCount++;
        return RUN_VALUE;
    }

    private int leaveWith(int object) {
        value = object;
        frameCount--;
        return RUN_VALUE;
    }

    private int advance() {
        int top = frameCount - 1;
        int n = frameNode[top];
        int env = frameEnv[top];
        switch (nodeKind[n]) {
            case KIND_VAR:
                return advanceVariable(n, env);
            case KIND_OBJ:
                return advanceObject(n, env);
            case KIND_SEL:
                return advanceSelect(n, env, top);
            default:
                return advanceUpdate(n, env, top);
        }
    }

    private int advanceVariable(int n, int env) {
        // Only closed terms run, so the environment reaches as far as the index.
        int cell = env;
        for (int i = 0; i < nodeNumber[n]; i++) {
            cell = cellRest[cell];
        }
        return leaveWith(cellObject[cell]);
    }

    private int advanceObject(int n, int env) {
        if (created >= MAX_OBJECTS) {
            return RUN_OUT_OF_SPACE;
        }
        int object = created;
        created++;
        origin[object] = annotation[n];
        for (int l = 0; l < LABELS; l++) {
            closureBody[object * LABELS + l] = NONE;
        }
        for (int i = 0; i < methodCount[n]; i++) {
            int method = n * MAX_MEMBERS + i;
            int cell = object * LABELS + methodLabel[method];
            closureBody[cell] = methodBody[method];
            closureEnv[cell] = env;
        }
        return leaveWith(object);
    }

    private int advanceSelect(int n, int env, int top) {
        if (framePhase[top] == PHASE_ENTERED) {
            framePhase[top] = PHASE_RECEIVER;
            return enter(receiverOf[n], env);
        }
        // The frame stays while the body is evaluated, since the body counts one deeper.
        if (framePhase[top] == PHASE_BODY) {
            return leaveWith(value);
        }
        int closure = value * LABELS + nodeNumber[n];
        if (closureBody[closure] == NONE) {
            return RUN_MNU;
        }
        if (used >= fuelLimit) {
            return RUN_OUT_OF_FUEL;
        }
        int cell = used;
        used++;
        cellObject[cell] = value;
        cellRest[cell] = closureEnv[closure];
        framePhase[top] = PHASE_BODY;
        return enter(closureBody[closure], cell);
    }

    private int advanceUpdate(int n, int env, int top) {
        if (framePhase[top] == PHASE_ENTERED) {
            framePhase[top] = PHASE_RECEIVER;
            return enter(receiverOf[n], env);
        }
        if (closureBody[value * LABELS + nodeNumber[n]] == NONE) {
            return RUN_BAD_UPDATE;
        }
        if (created >= MAX_OBJECTS) {
            return RUN_OUT_OF_SPACE;
        }
        int object = created;
        created++;
        origin[object] = annotation[n];
        for (int l = 0; l < LABELS; l++) {
            closureBody[object * LABELS + l] = closureBody[value * LABELS + l];
            closureEnv[object * LABELS + l] = closureEnv[value * LABELS + l];
        }
        int cell = object * LABELS + nodeNumber[n];
        closureBody[cell] = bodyOf[n];
        closureEnv[cell] = env;
        return leaveWith(object);
    }
}
