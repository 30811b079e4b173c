import java.util.ArrayList;
import java.util.BitSet;
import java.util.HashSet;
import java.util.List;
import java.util.NoSuchElementException;
import java.util.Set;

/**
 * The document's words as they stand: every event has the set of all its ancestors, and every text is
 * read anew from the tree, walked from its root. The tests hold WeaveCore against it, full graphs too;
 * the walk of a tree that is as deep needs a thread with room for it.
 */
final class Model {
    private static final class Event {
        int agent;
        int number;
        /** Its place among all that came, by which the sets of events know it. */
        int place;
        BitSet ancestors = new BitSet();
        boolean inserts;
        int code;
        /** What hangs on it, each by its id. */
        final List<Event> lefts = new ArrayList<>();
        final List<Event> rights = new ArrayList<>();
        /** The node that it deletes. */
        Event target;
    }

    private final List<Event> came = new ArrayList<>();
    private final Event root = new Event();
    private final Set<Event> list = new HashSet<>();

    int parent(int agent, int number) {
        Event event = find(agent, number);
        if (list.contains(event)) {
            throw new UnsupportedOperationException();
        }
        if (list.size() == 16) {
            throw new IllegalStateException();
        }
        list.add(event);
        return list.size();
    }

    int heads() {
        list.clear();
        BitSet ancestors = new BitSet();
        for (Event event : came) {
            ancestors.or(event.ancestors);
        }
        for (Event event : came) {
            if (!ancestors.get(event.place)) {
                list.add(event);
            }
        }
        return list.size();
    }

    int seen() {
        refuseTangles(list);
        return seenBy(withAncestors(list)).size();
    }

    int insert(int agent, int index, int code, int n) {
        refuse(agent < 0 || agent > 255 || n < 1 || n > 100 || index < 0
                || code < 0 || (long) code + n - 1 > 1114111);
        Set<Event> parents = takeParents(agent);
        if (index > seenBy(withAncestors(parents)).size()) {
            throw new IndexOutOfBoundsException();
        }
        refuseTooMany(agent, n);
        for (int i = 0; i < n; i++) {
            Event event = event(agent, parents);
            event.inserts = true;
            event.code = code + i;
            hang(event, index + i);
            came.add(event);
            parents = Set.of(event);
        }
        return length();
    }

    int delete(int agent, int index, int n) {
        refuse(agent < 0 || agent > 255 || n < 1 || n > 100 || index < 0);
        Set<Event> parents = takeParents(agent);
        if ((long) index + n > seenBy(withAncestors(parents)).size()) {
            throw new IndexOutOfBoundsException();
        }
        refuseTooMany(agent, n);
        for (int i = 0; i < n; i++) {
            Event event = event(agent, parents);
            event.target = seenBy(event.ancestors).get(index);
            came.add(event);
            parents = Set.of(event);
        }
        return length();
    }

    int length() {
        return was(came.size());
    }

    int at(int index) {
        return wasAt(came.size(), index);
    }

    long who(int index) {
        Event event = first(came.size()).get(index);
        return (1L << 32) * event.agent + event.number;
    }

    int spot(int agent, int number) {
        Event event = find(agent, number);
        if (!event.inserts) {
            throw new UnsupportedOperationException();
        }
        return order().indexOf(event);
    }

    int was(int n) {
        return first(n).size();
    }

    int wasAt(int n, int index) {
        return first(n).get(index).code;
    }

    int line(int n) {
        List<Event> text = first(came.size());
        List<Integer> begins = new ArrayList<>(List.of(0));
        for (int i = 0; i < text.size(); i++) {
            if (text.get(i).code == 10) {
                begins.add(i + 1);
            }
        }
        if (n < -1 || n >= begins.size()) {
            throw new NoSuchElementException();
        }
        return n == -1 ? begins.size() : begins.get(n);
    }

    int events(int agent) {
        refuse(agent < -1 || agent > 255);
        return (int) came.stream().filter(event -> agent == -1 || event.agent == agent).count();
    }

    private Event find(int agent, int number) {
        for (Event event : came) {
            if (event.agent == agent && event.number == number) {
                return event;
            }
        }
        throw new NoSuchElementException();
    }

    private static void refuse(boolean wrong) {
        if (wrong) {
            throw new IllegalArgumentException();
        }
    }

    private static void refuseTangles(Set<Event> parents) {
        for (Event one : parents) {
            for (Event other : parents) {
                if (one.ancestors.get(other.place)) {
                    throw new UnsupportedOperationException();
                }
            }
        }
    }

    private Set<Event> takeParents(int agent) {
        Set<Event> parents = Set.copyOf(list);
        list.clear();
        refuseTangles(parents);
        int count = events(agent);
        if (count > 0 && !withAncestors(parents).get(find(agent, count - 1).place)) {
            throw new UnsupportedOperationException();
        }
        return parents;
    }

    private void refuseTooMany(int agent, int n) {
        long agents = came.stream().mapToInt(event -> event.agent).distinct().count();
        if (came.size() + n > 8192 || (events(agent) == 0 && agents == 16)) {
            throw new IllegalStateException();
        }
    }

    private Event event(int agent, Set<Event> parents) {
        Event event = new Event();
        event.agent = agent;
        event.number = events(agent);
        event.place = came.size();
        event.ancestors = withAncestors(parents);
        return event;
    }

    private static BitSet withAncestors(Set<Event> parents) {
        BitSet all = new BitSet();
        for (Event event : parents) {
            all.set(event.place);
            all.or(event.ancestors);
        }
        return all;
    }

    private void hang(Event event, int index) {
        Event left = index == 0 ? root : seenBy(event.ancestors).get(index - 1);
        if (left.rights.stream().noneMatch(node -> event.ancestors.get(node.place))) {
            putById(event, left.rights);
        } else {
            putById(event, nextBehind(left, event.ancestors).lefts);
        }
    }

    private Event nextBehind(Event left, BitSet ancestors) {
        List<Event> order = order();
        int next = order.indexOf(left) + 1;
        while (!ancestors.get(order.get(next).place)) {
            next++;
        }
        return order.get(next);
    }

    private static void putById(Event event, List<Event> siblings) {
        siblings.add(event);
        siblings.sort((a, b) -> a.agent != b.agent ? a.agent - b.agent : a.number - b.number);
    }

    private List<Event> first(int n) {
        if (n < 0 || n > came.size()) {
            throw new IndexOutOfBoundsException();
        }
        BitSet events = new BitSet();
        events.set(0, n);
        return seenBy(events);
    }

    private List<Event> seenBy(BitSet events) {
        BitSet deleted = new BitSet();
        for (int i = events.nextSetBit(0); i >= 0; i = events.nextSetBit(i + 1)) {
            if (!came.get(i).inserts) {
                deleted.set(came.get(i).target.place);
            }
        }
        List<Event> nodes = new ArrayList<>();
        for (Event node : order()) {
            if (events.get(node.place) && !deleted.get(node.place)) {
                nodes.add(node);
            }
        }
        return nodes;
    }

    private List<Event> order() {
        List<Event> all = new ArrayList<>();
        walk(root, all);
        return all;
    }

    private void walk(Event node, List<Event> all) {
        for (Event left : node.lefts) {
            walk(left, all);
        }
        if (node != root) {
            all.add(node);
        }
        for (Event right : node.rights) {
            walk(right, all);
        }
    }
}
