import java.util.LinkedHashMap;
import java.util.List;
import java.util.Map;
import java.util.function.Function;
import java.util.function.Supplier;
import java.util.function.ToIntFunction;

/** Tests what a call leaves alone: two objects have the same past, one of them gets the call, then both are asked. */
final class Twin {
    /** What to ask an object: each question with its answer. */
    interface Part extends Function<ObjectCalculus, Map<String, Integer>> {
    }

    /** The last two use checks, runs and new nodes to find out, so they stand behind those that only read. */
    private static final List<Part> ALL =
        List.of(Twin::types, Twin::parents, Twin::errorNode, Twin::result, Twin::terms, Twin::room);

    private Twin() {
    }

    /** A refused call, or one that only reads. */
    static void changesNothing(
            String call, Supplier<ObjectCalculus> past, ToIntFunction<ObjectCalculus> action, int want) {
        keeps(call, past, action, want, ALL);
    }

    static void keeps(String call, Supplier<ObjectCalculus> past, ToIntFunction<ObjectCalculus> action, int want,
            List<Part> parts) {
        ObjectCalculus x = past.get();
        ObjectCalculus y = past.get();
        Due.is(call, action.applyAsInt(x), want);
        for (Part part : parts) {
            Map<String, Integer> got = part.apply(x);
            part.apply(y).forEach((question, due) -> Due.is("after " + call + ", " + question, got.get(question), due));
        }
    }

    static Map<String, Integer> types(ObjectCalculus x) {
        return typesIn(x, -1, 34);
    }

    static Map<String, Integer> sceneTypes(ObjectCalculus x) {
        return typesIn(x, 0, Scene.TYPES);
    }

    private static Map<String, Integer> typesIn(ObjectCalculus x, int from, int to) {
        Map<String, Integer> answers = new LinkedHashMap<>();
        for (int t = from; t < to; t++) {
            for (int l = -1; l <= 16; l++) {
                answers.put("typeMember(" + t + ", " + l + ")", x.typeMember(t, l));
            }
            for (int u = from; u < to; u++) {
                answers.put("isSubtype(" + t + ", " + u + ")", x.isSubtype(t, u) ? 1 : 0);
            }
        }
        return answers;
    }

    static Map<String, Integer> parents(ObjectCalculus x) {
        Map<String, Integer> answers = new LinkedHashMap<>();
        for (int n = -1; n < 34; n++) {
            answers.put("nodeParent(" + n + ")", x.nodeParent(n));
        }
        return answers;
    }

    static Map<String, Integer> errorNode(ObjectCalculus x) {
        return Map.of("errorNode()", x.errorNode());
    }

    static Map<String, Integer> result(ObjectCalculus x) {
        Map<String, Integer> answers = new LinkedHashMap<>();
        answers.put("resultType()", x.resultType());
        answers.put("fuelUsed()", x.fuelUsed());
        answers.put("objectsCreated()", x.objectsCreated());
        for (int l = -1; l <= 16; l++) {
            answers.put("resultBody(" + l + ")", x.resultBody(l));
        }
        return answers;
    }

    /** Every node as a term; an answer CK_BAD_ROOT tells that it is no node. */
    static Map<String, Integer> terms(ObjectCalculus x) {
        return termsIn(x, -1, 34);
    }

    static Map<String, Integer> sceneTerms(ObjectCalculus x) {
        return termsIn(x, 0, Scene.NODES);
    }

    private static Map<String, Integer> termsIn(ObjectCalculus x, int from, int to) {
        Map<String, Integer> answers = new LinkedHashMap<>();
        for (int n = from; n < to; n++) {
            answers.put("check(" + n + ")", x.check(n));
            answers.put("errorNode() of check(" + n + ")", x.errorNode());
            int outcome = x.run(n, 128);
            answers.put("run(" + n + ", 128)", outcome);
            // What is read behind a refused run belongs to an earlier one.
            if (outcome != ObjectCalculus.RUN_BAD_ROOT && outcome != ObjectCalculus.RUN_OPEN) {
                String of = " of run(" + n + ", 128)";
                result(x).forEach((question, answer) -> answers.put(question + of, answer));
            }
        }
        return answers;
    }

    /** The ids that new nodes and types get, until neither table takes one more. */
    static Map<String, Integer> room(ObjectCalculus x) {
        Map<String, Integer> answers = new LinkedHashMap<>();
        for (int i = 0; i < 33; i++) {
            answers.put("new node " + i, x.variable(0));
            answers.put("new type " + i, x.extendType(1, 13, i));
        }
        return answers;
    }
}
