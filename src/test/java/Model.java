import java.util.ArrayList;
import java.util.HashSet;
import java.util.List;
import java.util.NoSuchElementException;
import java.util.Set;

/**
 * The document's words as they stand, with no thought of speed: every event has the set of its
 * ancestors, and every order is walked anew from the tree. The tests hold WeaveCore against it.
 */
final class Model {
    static final class Event {
        int agent;
        int number;
        final Set<Event> ancestors = new HashSet<>();
        boolean inserts;
        int code;
        /** What it hangs on, null for the root. */
        Event on;
        boolean atLeft;
        Event target;
    }

    private final List<Event> came = new ArrayList<>();
    private final Set<Event> list = new HashSet<>();

    int parent(int agent, int number) {
        Event event = find(agent, number);
        if (list.contains(event)) {
            throw new UnsupportedOperationException();
        }
        if (list.size() == 16) {
            throw new IllegalStateException();
        }
        list.add(event);
        return list.size();
    }

    int heads() {
        list.clear();
        for (Event event : came) {
            if (came.stream().noneMatch(other -> other.ancestors.contains(event))) {
                list.add(event);
            }
        }
        return list.size();
    }

    int seen() {
        refuseTangles(list);
        return seenBy(withAncestors(list)).size();
    }

    int insert(int agent, int index, int code, int n) {
        refuse(agent < 0 || agent > 255 || n < 1 || n > 100 || index < 0
                || code < 0 || (long) code + n - 1 > 1114111);
        Set<Event> parents = takeParents(agent);
        if (index > seenBy(withAncestors(parents)).size()) {
            throw new IndexOutOfBoundsException();
        }
        refuseTooMany(agent, n);
        for (int i = 0; i < n; i++) {
            Event event = come(agent, parents);
            event.inserts = true;
            event.code = code + i;
            hang(event, index + i);
            came.add(event);
            parents = Set.of(event);
        }
        return length();
    }

    int delete(int agent, int index, int n) {
        refuse(agent < 0 || agent > 255 || n < 1 || n > 100 || index < 0);
        Set<Event> parents = takeParents(agent);
        if ((long) index + n > seenBy(withAncestors(parents)).size()) {
            throw new IndexOutOfBoundsException();
        }
        refuseTooMany(agent, n);
        for (int i = 0; i < n; i++) {
            Event event = come(agent, parents);
            event.target = seenBy(event.ancestors).get(index);
            came.add(event);
            parents = Set.of(event);
        }
        return length();
    }

    int length() {
        return was(came.size());
    }

    int at(int index) {
        return wasAt(came.size(), index);
    }

    long who(int index) {
        Event event = seenBy(new HashSet<>(came)).get(index);
        return (1L << 32) * event.agent + event.number;
    }

    int spot(int agent, int number) {
        Event event = find(agent, number);
        if (!event.inserts) {
            throw new UnsupportedOperationException();
        }
        return order(new HashSet<>(came)).indexOf(event);
    }

    int was(int n) {
        return first(n).size();
    }

    int wasAt(int n, int index) {
        return first(n).get(index).code;
    }

    int line(int n) {
        List<Integer> begins = new ArrayList<>(List.of(0));
        for (int i = 0; i < length(); i++) {
            if (at(i) == 10) {
                begins.add(i + 1);
            }
        }
        if (n < -1 || n >= begins.size()) {
            throw new NoSuchElementException();
        }
        return n == -1 ? begins.size() : begins.get(n);
    }

    int events(int agent) {
        refuse(agent < -1 || agent > 255);
        return (int) came.stream().filter(event -> agent == -1 || event.agent == agent).count();
    }

    private Event find(int agent, int number) {
        for (Event event : came) {
            if (event.agent == agent && event.number == number) {
                return event;
            }
        }
        throw new NoSuchElementException();
    }

    private static void refuse(boolean wrong) {
        if (wrong) {
            throw new IllegalArgumentException();
        }
    }

    private static void refuseTangles(Set<Event> parents) {
        for (Event one : parents) {
            for (Event other : parents) {
                if (one.ancestors.contains(other)) {
                    throw new UnsupportedOperationException();
                }
            }
        }
    }

    private Set<Event> takeParents(int agent) {
        Set<Event> parents = Set.copyOf(list);
        list.clear();
        refuseTangles(parents);
        if (events(agent) > 0 && !withAncestors(parents).contains(find(agent, events(agent) - 1))) {
            throw new UnsupportedOperationException();
        }
        return parents;
    }

    private void refuseTooMany(int agent, int n) {
        long agents = came.stream().mapToInt(event -> event.agent).distinct().count();
        if (came.size() + n > 8192 || (events(agent) == 0 && agents == 16)) {
            throw new IllegalStateException();
        }
    }

    private Event come(int agent, Set<Event> parents) {
        Event event = new Event();
        event.agent = agent;
        event.number = events(agent);
        event.ancestors.addAll(withAncestors(parents));
        return event;
    }

    private static Set<Event> withAncestors(Set<Event> parents) {
        Set<Event> all = new HashSet<>(parents);
        for (Event event : parents) {
            all.addAll(event.ancestors);
        }
        return all;
    }

    private void hang(Event event, int index) {
        List<Event> known = order(event.ancestors);
        Event left = index == 0 ? null : seenBy(event.ancestors).get(index - 1);
        boolean taken = known.stream().anyMatch(node -> node.on == left && !node.atLeft);
        event.atLeft = taken;
        event.on = taken ? known.get(known.indexOf(left) + 1) : left;
    }

    private List<Event> first(int n) {
        if (n < 0 || n > came.size()) {
            throw new IndexOutOfBoundsException();
        }
        return seenBy(new HashSet<>(came.subList(0, n)));
    }

    private static List<Event> seenBy(Set<Event> events) {
        List<Event> nodes = order(events);
        for (Event event : events) {
            nodes.remove(event.target);
        }
        return nodes;
    }

    private static List<Event> order(Set<Event> events) {
        List<Event> nodes = new ArrayList<>();
        for (Event event : events) {
            if (event.inserts) {
                nodes.add(event);
            }
        }
        nodes.sort((a, b) -> a.agent != b.agent ? a.agent - b.agent : a.number - b.number);
        List<Event> all = new ArrayList<>();
        walk(nodes, null, all);
        return all;
    }

    private static void walk(List<Event> nodes, Event on, List<Event> all) {
        for (Event node : nodes) {
            if (node.on == on && node.atLeft) {
                walk(nodes, node, all);
            }
        }
        if (on != null) {
            all.add(on);
        }
        for (Event node : nodes) {
            if (node.on == on && !node.atLeft) {
                walk(nodes, node, all);
            }
        }
    }
}
