import java.util.ArrayDeque;
import java.util.ArrayList;
import java.util.Deque;
import java.util.HashMap;
import java.util.List;
import java.util.Map;
import java.util.Set;
import java.util.TreeMap;
import java.util.TreeSet;

/** Which method calls which, and how deep calls go; a method that calls itself is counted once. */
final class Calls {
    private final Map<String, Set<String>> calledBy = new TreeMap<>();
    private final Map<String, Integer> depths = new HashMap<>();
    private final Map<String, String> deepest = new HashMap<>();
    private final Deque<String> open = new ArrayDeque<>();
    private final List<String> rings = new ArrayList<>();

    void add(String from, String to) {
        calledBy.computeIfAbsent(from, name -> new TreeSet<>()).add(to);
    }

    Set<String> callingThemselves() {
        Set<String> found = new TreeSet<>();
        for (String method : calledBy.keySet()) {
            if (calledBy.get(method).contains(method)) {
                found.add(method);
            }
        }
        return found;
    }

    /** The longest row of calls that stand open at once, the first one first. */
    List<String> longestRow() {
        String first = "";
        for (String method : calledBy.keySet()) {
            if (first.isEmpty() || depthOf(method) > depthOf(first)) {
                first = method;
            }
        }
        List<String> row = new ArrayList<>();
        for (String method = first; method != null && !method.isEmpty(); method = deepest.get(method)) {
            row.add(method);
        }
        return row;
    }

    /** Methods that call one another in a ring of two or more, as far as they were met by longestRow(). */
    List<String> rings() {
        return rings;
    }

    private int depthOf(String method) {
        if (depths.containsKey(method)) {
            return depths.get(method);
        }
        open.push(method);
        int depth = 1;
        for (String called : calledBy.getOrDefault(method, Set.of())) {
            if (called.equals(method)) {
                continue;
            }
            if (open.contains(called)) {
                rings.add(called + " and " + method);
                continue;
            }
            if (depthOf(called) + 1 > depth) {
                depth = depthOf(called) + 1;
                deepest.put(method, called);
            }
        }
        open.pop();
        depths.put(method, depth);
        return depth;
    }
}
