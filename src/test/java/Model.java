import java.util.ArrayList;
import java.util.LinkedHashMap;
import java.util.List;
import java.util.Map;
import java.util.TreeMap;

/** The document's rules once more, written down as they stand there: with maps, lists and recursion. */
final class Model {
    private static final class Node {
        char kind;
        int number = -1;
        int type = -1;
        Node receiver;
        Node body;
        Node parent;
        int id;
        final Map<Integer, Node> methods = new LinkedHashMap<>();
    }

    private record Closure(Node body, List<Value> env) {
    }

    private record Value(Map<Integer, Closure> closures, int origin) {
    }

    /** Ends a check or a run. */
    private static final class Stop extends RuntimeException {
        private static final long serialVersionUID = 1L;
        final int answer;
        final int node;

        Stop(int answer, int node) {
            super(null, null, false, false);
            this.answer = answer;
            this.node = node;
        }
    }

    private final int nodeCap;
    private final int typeCap;
    private final List<Map<Integer, Integer>> types = new ArrayList<>();
    private final List<Node> nodes = new ArrayList<>();
    private int errorNode = -1;
    private Value result = null;
    private int fuel = 0;
    private int used = 0;
    private int created = 0;

    Model(int nodeCap, int typeCap) {
        this.nodeCap = Math.max(8, Math.min(32, nodeCap));
        this.typeCap = Math.max(8, Math.min(32, typeCap));
        types.add(null);
        types.add(new TreeMap<>());
    }

    int typeCount() {
        return types.size();
    }

    int nodeCount() {
        return nodes.size();
    }

    private boolean isType(int t) {
        return 0 <= t && t < types.size();
    }

    private boolean isNode(int n) {
        return 0 <= n && n < nodes.size();
    }

    private static boolean isLabel(int l) {
        return 0 <= l && l <= 15;
    }

    int extendType(int t, int label, int member) {
        if (!isType(t) || t == 0 || !isLabel(label) || !isType(member)) {
            return -1;
        }
        if (types.get(t).containsKey(label) || types.get(t).size() == 8) {
            return -1;
        }
        Map<Integer, Integer> extended = new TreeMap<>(types.get(t));
        extended.put(label, member);
        int known = types.indexOf(extended);
        if (known >= 0) {
            return known;
        }
        if (types.size() == typeCap) {
            return -1;
        }
        types.add(extended);
        return types.size() - 1;
    }

    int typeMember(int t, int label) {
        return isType(t) && t != 0 ? types.get(t).getOrDefault(label, -1) : -1;
    }

    boolean isSubtype(int a, int b) {
        if (!isType(a) || !isType(b)) {
            return false;
        }
        if (a == b || b == 0) {
            return true;
        }
        return a != 0 && types.get(a).entrySet().containsAll(types.get(b).entrySet());
    }

    private Node add(char kind, int number, int type) {
        Node n = new Node();
        n.kind = kind;
        n.number = number;
        n.type = type;
        n.id = nodes.size();
        nodes.add(n);
        return n;
    }

    private boolean full() {
        return nodes.size() == nodeCap;
    }

    private boolean loose(int n) {
        return isNode(n) && nodes.get(n).parent == null;
    }

    int variable(int k) {
        return k < 0 || k > 15 || full() ? -1 : add('V', k, -1).id;
    }

    int object(int a) {
        return !isType(a) || full() ? -1 : add('O', -1, a).id;
    }

    boolean addMethod(int obj, int label, int body) {
        if (!isNode(obj) || nodes.get(obj).kind != 'O' || !isLabel(label) || !loose(body) || body >= obj) {
            return false;
        }
        Node o = nodes.get(obj);
        if (o.methods.containsKey(label) || o.methods.size() == 8) {
            return false;
        }
        o.methods.put(label, nodes.get(body));
        nodes.get(body).parent = o;
        return true;
    }

    int select(int a, int label) {
        if (!loose(a) || !isLabel(label) || full()) {
            return -1;
        }
        Node n = add('S', label, -1);
        n.receiver = nodes.get(a);
        n.receiver.parent = n;
        return n.id;
    }

    int update(int a, int label, int type, int body) {
        if (!loose(a) || !loose(body) || a == body || !isLabel(label) || !isType(type) || full()) {
            return -1;
        }
        Node n = add('U', label, type);
        n.receiver = nodes.get(a);
        n.receiver.parent = n;
        n.body = nodes.get(body);
        n.body.parent = n;
        return n.id;
    }

    int nodeParent(int n) {
        return isNode(n) && nodes.get(n).parent != null ? nodes.get(n).parent.id : -1;
    }

    int check(int r) {
        errorNode = -1;
        if (!isNode(r)) {
            return -1;
        }
        try {
            return tc(nodes.get(r), List.of());
        } catch (Stop stop) {
            errorNode = stop.node;
            return stop.answer;
        }
    }

    int errorNode() {
        return errorNode;
    }

    private static <T> List<T> cons(T head, List<T> tail) {
        List<T> list = new ArrayList<>();
        list.add(head);
        list.addAll(tail);
        return list;
    }

    private static void stopIf(boolean condition, int answer, Node n) {
        if (condition) {
            throw new Stop(answer, n.id);
        }
    }

    private int tc(Node n, List<Integer> g) {
        switch (n.kind) {
            case 'V': {
                stopIf(n.number >= g.size(), -2, n);
                return g.get(n.number);
            }
            case 'S': {
                int t = tc(n.receiver, g);
                stopIf(t == 0, -3, n);
                stopIf(!types.get(t).containsKey(n.number), -4, n);
                return types.get(t).get(n.number);
            }
            case 'U': {
                int t = tc(n.receiver, g);
                stopIf(n.type == 0, -3, n);
                stopIf(!types.get(n.type).containsKey(n.number), -4, n);
                stopIf(!isSubtype(t, n.type), -6, n);
                int u = tc(n.body, cons(n.type, g));
                stopIf(!isSubtype(u, types.get(n.type).get(n.number)), -7, n);
                return n.type;
            }
            default: {
                stopIf(n.type == 0, -3, n);
                stopIf(!n.methods.keySet().equals(types.get(n.type).keySet()), -5, n);
                for (Map.Entry<Integer, Node> m : n.methods.entrySet()) {
                    int u = tc(m.getValue(), cons(n.type, g));
                    stopIf(!isSubtype(u, types.get(n.type).get(m.getKey())), -7, n);
                }
                return n.type;
            }
        }
    }

    private static boolean closed(Node n, int binders) {
        switch (n.kind) {
            case 'V':
                return n.number < binders;
            case 'S':
                return closed(n.receiver, binders);
            case 'U':
                return closed(n.receiver, binders) && closed(n.body, binders + 1);
            default:
                return n.methods.values().stream().allMatch(b -> closed(b, binders + 1));
        }
    }

    int run(int r, int givenFuel) {
        if (!isNode(r)) {
            return 6;
        }
        if (!closed(nodes.get(r), 0)) {
            return 7;
        }
        fuel = Math.max(0, Math.min(128, givenFuel));
        result = null;
        used = 0;
        created = 0;
        try {
            result = ev(nodes.get(r), List.of(), 1);
            return 0;
        } catch (Stop stop) {
            return stop.answer;
        }
    }

    private Value ev(Node n, List<Value> e, int d) {
        stopIf(d > 48, 4, n);
        switch (n.kind) {
            case 'V': {
                return e.get(n.number);
            }
            case 'O': {
                stopIf(created == 32, 5, n);
                created++;
                Map<Integer, Closure> closures = new TreeMap<>();
                n.methods.forEach((l, b) -> closures.put(l, new Closure(b, e)));
                return new Value(closures, n.type);
            }
            case 'S': {
                Value v = ev(n.receiver, e, d + 1);
                stopIf(!v.closures.containsKey(n.number), 1, n);
                stopIf(used == fuel, 3, n);
                used++;
                Closure c = v.closures.get(n.number);
                return ev(c.body, cons(v, c.env), d + 1);
            }
            default: {
                Value v = ev(n.receiver, e, d + 1);
                stopIf(!v.closures.containsKey(n.number), 2, n);
                stopIf(created == 32, 5, n);
                created++;
                Map<Integer, Closure> closures = new TreeMap<>(v.closures);
                closures.put(n.number, new Closure(n.body, e));
                return new Value(closures, n.type);
            }
        }
    }

    int resultBody(int label) {
        return result != null && result.closures.containsKey(label) ? result.closures.get(label).body.id : -1;
    }

    int resultType() {
        return result == null ? -1 : result.origin;
    }

    int fuelUsed() {
        return used;
    }

    int objectsCreated() {
        return created;
    }
}
