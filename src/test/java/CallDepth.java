import java.util.ArrayList;
import java.util.LinkedHashMap;
import java.util.LinkedHashSet;
import java.util.List;
import java.util.Map;
import java.util.Set;
import javax.lang.model.element.Element;

/** Which method calls which, and how many can be open at once. */
final class CallDepth {
    private final Map<Element, Set<Element>> calls = new LinkedHashMap<>();
    private final Map<Element, List<String>> deepestFrom = new LinkedHashMap<>();
    private List<String> circle = List.of();
    private boolean found;

    void addMethod(Element method) {
        calls.computeIfAbsent(method, m -> new LinkedHashSet<>());
    }

    void addCall(Element caller, Element called) {
        addMethod(caller);
        addMethod(called);
        calls.get(caller).add(called);
    }

    /** A chain of calls that comes back to where it began, or an empty one if there is none. */
    List<String> circle() {
        find();
        return circle;
    }

    /** The longest chain of calls; each of its methods calls the next one. */
    List<String> deepest() {
        find();
        List<String> deepest = List.of();
        for (List<String> chain : deepestFrom.values()) {
            deepest = chain.size() > deepest.size() ? chain : deepest;
        }
        return deepest;
    }

    private void find() {
        if (found) {
            return;
        }
        found = true;
        for (Element method : calls.keySet()) {
            chainFrom(method, new LinkedHashSet<>());
        }
    }

    private List<String> chainFrom(Element method, Set<Element> open) {
        if (deepestFrom.containsKey(method)) {
            return deepestFrom.get(method);
        }
        if (!open.add(method)) {
            circle = namesOf(open);
            return List.of();
        }
        List<String> longest = List.of();
        for (Element called : calls.get(method)) {
            List<String> chain = chainFrom(called, open);
            longest = chain.size() > longest.size() ? chain : longest;
        }
        open.remove(method);
        List<String> chain = new ArrayList<>(List.of(nameOf(method)));
        chain.addAll(longest);
        deepestFrom.put(method, chain);
        return chain;
    }

    private static List<String> namesOf(Set<Element> methods) {
        List<String> names = new ArrayList<>();
        for (Element method : methods) {
            names.add(nameOf(method));
        }
        return names;
    }

    private static String nameOf(Element method) {
        return method.getEnclosingElement().getSimpleName() + "." + method.getSimpleName();
    }
}
