import java.util.ArrayList;
import java.util.HashMap;
import java.util.LinkedHashMap;
import java.util.LinkedHashSet;
import java.util.List;
import java.util.Map;
import java.util.Set;
import javax.lang.model.element.Element;

/** Which methods call which; a class stands for its constructor. */
final class CallDepth {
    private final Map<Element, Set<Element>> called = new LinkedHashMap<>();
    private final Map<Element, List<Element>> chains = new HashMap<>();
    private final List<Element> open = new ArrayList<>();
    private List<Element> circle = List.of();

    void add(Element caller) {
        called.putIfAbsent(caller, new LinkedHashSet<>());
    }

    void add(Element caller, Element callee) {
        add(caller);
        called.get(caller).add(callee);
    }

    /** Calls of which the last one is the first one again; empty if there are none. */
    List<Element> circle() {
        deepest();
        return circle;
    }

    List<Element> deepest() {
        List<Element> deepest = List.of();
        for (Element caller : called.keySet()) {
            List<Element> chain = chainFrom(caller);
            deepest = chain.size() > deepest.size() ? chain : deepest;
        }
        return deepest;
    }

    private List<Element> chainFrom(Element caller) {
        if (open.contains(caller)) {
            circle = new ArrayList<>(open.subList(open.indexOf(caller), open.size()));
            circle.add(caller);
            return List.of();
        }
        List<Element> known = chains.get(caller);
        return known != null ? known : newChainFrom(caller);
    }

    private List<Element> newChainFrom(Element caller) {
        List<Element> longest = List.of();
        open.add(caller);
        for (Element callee : called.getOrDefault(caller, Set.of())) {
            List<Element> chain = chainFrom(callee);
            longest = chain.size() > longest.size() ? chain : longest;
        }
        open.remove(open.size() - 1);
        List<Element> whole = new ArrayList<>();
        whole.add(caller);
        whole.addAll(longest);
        chains.put(caller, whole);
        return whole;
    }
}
