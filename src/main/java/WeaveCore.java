import java.util.ArrayList;
import java.util.Arrays;
import java.util.NoSuchElementException;

/**
 * One text made of the edits of many who did not wait for one another.
 *
 * An agent's event always has the agent's earlier ones among its ancestors, so a set of events that
 * holds the ancestors of each of its own is told whole by one count for each agent: that is a VIEW.
 */
public final class WeaveCore {
    private static final int MOST_EVENTS = 8192;
    private static final int MOST_AGENTS = 16;
    private static final int MOST_LISTED = 16;
    private static final int MOST_AT_ONCE = 100;
    private static final int LAST_NAME = 255;
    private static final int LAST_CODE = 1114111;
    private static final int LINE_END = 10;
    private static final int ALL_AGENTS = -1;
    private static final int COUNT_OF_LINES = -1;
    private static final int NO_NAME = -1;
    /** Stands for the arrival of what has not come: behind every arrival that can be. */
    private static final int NEVER = 1000000;
    private static final long ONE_AGENT = 4294967296L;

    private final Agent[] agents;
    private final ArrayList<Event> arrived;
    private final Node root;
    private final Event[] list;
    /** Of the list and its ancestors; one row for all calls, filled anew by each that needs it. */
    private final int[] view;
    private int agentCount;
    private int listCount;
    private int textLength;

    public WeaveCore() {
        agents = new Agent[MOST_AGENTS];
        arrived = new ArrayList<Event>();
        list = new Event[MOST_LISTED];
        view = new int[MOST_AGENTS];
        root = new Node(new Agent(NO_NAME, 0), new int[MOST_AGENTS], 0);
        agentCount = 0;
        listCount = 0;
        textLength = 0;
    }

    public int parent(int agent, int number)
            throws NoSuchElementException, UnsupportedOperationException, IllegalStateException {
        Event event = findEvent(agent, number);
        if (event == null) {
            throw new NoSuchElementException();
        }
        if (isListed(event)) {
            throw new UnsupportedOperationException();
        }
        if (listCount >= MOST_LISTED) {
            throw new IllegalStateException();
        }
        enlist(event);
        return listCount;
    }

    public int heads() {
        listCount = 0;
        for (int i = 0; i < agentCount; i++) {
            Event latest = agents[i].latest();
            if (latest != null && !hasFollower(latest)) {
                enlist(latest);
            }
        }
        return listCount;
    }

    public int seen() throws UnsupportedOperationException {
        if (isListTangled()) {
            throw new UnsupportedOperationException();
        }
        lookFromList();
        return countSeen();
    }

    public int insert(int agent, int index, int code, int n)
            throws IllegalArgumentException, UnsupportedOperationException,
            IndexOutOfBoundsException, IllegalStateException {
        if (!canBeEdit(agent, index, n) || !areCodes(code, n)) {
            throw new IllegalArgumentException();
        }
        if (!takeList(agent)) {
            throw new UnsupportedOperationException();
        }
        if (index > countSeen()) {
            throw new IndexOutOfBoundsException();
        }
        if (!hasRoom(agent, n)) {
            throw new IllegalStateException();
        }
        weaveIn(authorNamed(agent), index, code, n);
        return textLength;
    }

    public int delete(int agent, int index, int n)
            throws IllegalArgumentException, UnsupportedOperationException,
            IndexOutOfBoundsException, IllegalStateException {
        if (!canBeEdit(agent, index, n)) {
            throw new IllegalArgumentException();
        }
        if (!takeList(agent)) {
            throw new UnsupportedOperationException();
        }
        if (index > countSeen() - n) {
            throw new IndexOutOfBoundsException();
        }
        if (!hasRoom(agent, n)) {
            throw new IllegalStateException();
        }
        cutOut(authorNamed(agent), index, n);
        return textLength;
    }

    public int length() {
        return textLength;
    }

    public int at(int index) throws IndexOutOfBoundsException {
        Node node = textNode(arrived.size(), index);
        if (node == null) {
            throw new IndexOutOfBoundsException();
        }
        return node.code;
    }

    public long who(int index) throws IndexOutOfBoundsException {
        Node node = textNode(arrived.size(), index);
        if (node == null) {
            throw new IndexOutOfBoundsException();
        }
        return ONE_AGENT * node.agent.name + node.number;
    }

    public int spot(int agent, int number)
            throws NoSuchElementException, UnsupportedOperationException {
        Event event = findEvent(agent, number);
        if (event == null) {
            throw new NoSuchElementException();
        }
        if (event instanceof Node node) {
            return countBefore(node);
        }
        throw new UnsupportedOperationException();
    }

    public int was(int n) throws IndexOutOfBoundsException {
        if (!haveCome(n)) {
            throw new IndexOutOfBoundsException();
        }
        return lengthAfter(n);
    }

    public int wasAt(int n, int index) throws IndexOutOfBoundsException {
        Node node = haveCome(n) ? textNode(n, index) : null;
        if (node == null) {
            throw new IndexOutOfBoundsException();
        }
        return node.code;
    }

    public int line(int n) throws NoSuchElementException {
        if (n == 0) {
            return 0;
        }
        int index = 0;
        int ends = 0;
        for (Node node = root.next; node != null; node = node.next) {
            if (node.isInTextOf(arrived.size())) {
                index++;
                if (node.code == LINE_END) {
                    ends++;
                    if (ends == n) {
                        return index;
                    }
                }
            }
        }
        if (n == COUNT_OF_LINES) {
            return ends + 1;
        }
        throw new NoSuchElementException();
    }

    public int events(int agent) throws IllegalArgumentException {
        if (agent == ALL_AGENTS) {
            return arrived.size();
        }
        if (!isName(agent)) {
            throw new IllegalArgumentException();
        }
        Agent found = findAgent(agent);
        return found == null ? 0 : found.history.size();
    }

    private static boolean isName(int agent) {
        return agent >= 0 && agent <= LAST_NAME;
    }

    private static boolean canBeEdit(int agent, int index, int n) {
        return isName(agent) && n >= 1 && n <= MOST_AT_ONCE && index >= 0;
    }

    /** Takes n from the last code, because the sum code + n could wrap around. */
    private static boolean areCodes(int code, int n) {
        return code >= 0 && code <= LAST_CODE - (n - 1);
    }

    private Agent findAgent(int name) {
        for (int i = 0; i < agentCount; i++) {
            if (agents[i].name == name) {
                return agents[i];
            }
        }
        return null;
    }

    private Event findEvent(int name, int number) {
        Agent agent = findAgent(name);
        if (agent == null || number < 0 || number >= agent.history.size()) {
            return null;
        }
        return agent.history.get(number);
    }

    private boolean isListed(Event event) {
        for (int i = 0; i < listCount; i++) {
            if (list[i] == event) {
                return true;
            }
        }
        return false;
    }

    private void enlist(Event event) {
        if (listCount < MOST_LISTED) {
            list[listCount] = event;
            listCount++;
        }
    }

    /** A look at the agents' latest events is enough: each follower is one of these or before one. */
    private boolean hasFollower(Event event) {
        for (int i = 0; i < agentCount; i++) {
            Event latest = agents[i].latest();
            if (latest != null && latest.isAfter(event)) {
                return true;
            }
        }
        return false;
    }

    private boolean isListTangled() {
        for (int i = 0; i < listCount; i++) {
            for (int j = 0; j < listCount; j++) {
                if (list[i].isAfter(list[j])) {
                    return true;
                }
            }
        }
        return false;
    }

    private void lookFromList() {
        Arrays.fill(view, 0);
        for (int i = 0; i < listCount; i++) {
            list[i].joinTo(view);
        }
    }

    /**
     * Makes the view that of the list, and the list empty, as every edit does whose arguments can
     * be; answers whether the agent may go on from that view.
     */
    private boolean takeList(int name) {
        boolean tangled = isListTangled();
        lookFromList();
        listCount = 0;
        Agent author = findAgent(name);
        return !tangled && (author == null || author.history.size() == view[author.slot]);
    }

    private boolean hasRoom(int name, int n) {
        return arrived.size() + n <= MOST_EVENTS
                && (agentCount < MOST_AGENTS || findAgent(name) != null);
    }

    private Agent authorNamed(int name) {
        Agent author = findAgent(name);
        if (author == null) {
            author = new Agent(name, agentCount);
            agents[agentCount] = author;
            agentCount++;
        }
        return author;
    }

    private Node nextSeen(Node from) {
        for (Node node = from.next; node != null; node = node.next) {
            if (node.isSeenIn(view)) {
                return node;
            }
        }
        return null;
    }

    private Node nextKnown(Node from) {
        for (Node node = from.next; node != null; node = node.next) {
            if (node.isIn(view)) {
                return node;
            }
        }
        return null;
    }

    private int countSeen() {
        int count = 0;
        for (Node node = nextSeen(root); node != null; node = nextSeen(node)) {
            count++;
        }
        return count;
    }

    /** The seen node that has so many seen ones up to it, itself too; the root for none. */
    private Node seenNode(int count) {
        Node node = root;
        for (int i = 0; i < count && node != null; i++) {
            node = nextSeen(node);
        }
        return node;
    }

    /**
     * The view stays that of the first event: each next one hangs on the one before, below which
     * there is nothing yet.
     */
    private void weaveIn(Agent author, int index, int code, int n) {
        int[] before = view.clone();
        Node left = seenNode(index);
        for (int i = 0; i < n && left != null; i++) {
            Node fresh = new Node(author, before, code + i);
            hang(fresh, left);
            textLength++;
            keep(fresh);
            left = fresh;
        }
    }

    private void hang(Node fresh, Node left) {
        Node behind = left.hasRightIn(view) ? nextKnown(left) : null;
        if (behind == null) {
            left.hangRight(fresh);
        } else {
            behind.hangLeft(fresh);
        }
    }

    /**
     * The view stays that of the first event: what each next one finds at the index is there the
     * next seen.
     */
    private void cutOut(Agent author, int index, int n) {
        int[] before = view.clone();
        Node node = seenNode(index + 1);
        for (int i = 0; i < n && node != null; i++) {
            Cut cut = new Cut(author, before);
            if (node.cuts == null) {
                node.firstCut = arrived.size();
                textLength--;
            }
            cut.other = node.cuts;
            node.cuts = cut;
            keep(cut);
            node = nextSeen(node);
        }
    }

    private void keep(Event event) {
        event.arrival = arrived.size();
        event.lengthThen = textLength;
        event.agent.history.add(event);
        arrived.add(event);
    }

    private boolean haveCome(int n) {
        return n >= 0 && n <= arrived.size();
    }

    private int lengthAfter(int n) {
        return n == 0 ? 0 : arrived.get(n - 1).lengthThen;
    }

    private Node textNode(int n, int index) {
        if (index < 0 || index >= lengthAfter(n)) {
            return null;
        }
        int before = index;
        for (Node node = root.next; node != null; node = node.next) {
            if (node.isInTextOf(n)) {
                if (before == 0) {
                    return node;
                }
                before--;
            }
        }
        return null;
    }

    private int countBefore(Node node) {
        int count = 0;
        for (Node other = root.next; other != null && other != node; other = other.next) {
            count++;
        }
        return count;
    }

    private static final class Agent {
        final int name;
        /** Its place in every view. */
        final int slot;
        final ArrayList<Event> history;

        Agent(int name, int slot) {
            this.name = name;
            this.slot = slot;
            this.history = new ArrayList<Event>();
        }

        Event latest() {
            return history.isEmpty() ? null : history.get(history.size() - 1);
        }
    }

    private abstract static class Event {
        final Agent agent;
        final int number;
        /**
         * The ancestors' view. All events of one call share that of the first: it lacks only newer
         * ones of their own agent, whose numbers tell enough.
         */
        final int[] before;
        int arrival;
        /** How long the text was when this event had just come. */
        int lengthThen;

        Event(Agent agent, int[] before) {
            this.agent = agent;
            this.number = agent.history.size();
            this.before = before;
        }

        boolean isIn(int[] view) {
            return number < view[agent.slot];
        }

        boolean isAfter(Event other) {
            return other.agent == agent ? other.number < number : other.isIn(before);
        }

        boolean hasSmallerIdThan(Event other) {
            return agent == other.agent ? number < other.number : agent.name < other.agent.name;
        }

        void joinTo(int[] view) {
            for (int i = 0; i < MOST_AGENTS; i++) {
                view[i] = Math.max(view[i], before[i]);
            }
            view[agent.slot] = Math.max(view[agent.slot], number + 1);
        }
    }

    /** An event that deletes: its node holds it in a chain. */
    private static final class Cut extends Event {
        Cut other;

        Cut(Agent agent, int[] before) {
            super(agent, before);
        }
    }

    /** An event that inserts, or the root. */
    private static final class Node extends Event {
        final int code;
        /** The smallest at the left and at the right; the others follow as siblings, by their ids. */
        Node lefts;
        Node rights;
        Node sibling;
        /** The neighbours in the order; the root is the very first. */
        Node previous;
        Node next;
        Cut cuts;
        /** The arrival of the first event that deletes it. */
        int firstCut;

        Node(Agent agent, int[] before, int code) {
            super(agent, before);
            this.code = code;
            this.firstCut = NEVER;
        }

        boolean isSeenIn(int[] view) {
            if (!isIn(view)) {
                return false;
            }
            for (Cut cut = cuts; cut != null; cut = cut.other) {
                if (cut.isIn(view)) {
                    return false;
                }
            }
            return true;
        }

        boolean isInTextOf(int n) {
            return arrival < n && firstCut >= n;
        }

        boolean hasRightIn(int[] view) {
            for (Node node = rights; node != null; node = node.sibling) {
                if (node.isIn(view)) {
                    return true;
                }
            }
            return false;
        }

        void hangRight(Node fresh) {
            Node smaller = fresh.lastSmaller(rights);
            if (smaller == null) {
                putBehind(fresh);
                fresh.sibling = rights;
                rights = fresh;
            } else {
                smaller.takeNextSibling(fresh);
            }
        }

        void hangLeft(Node fresh) {
            Node smaller = fresh.lastSmaller(lefts);
            if (smaller == null) {
                firstBelow().putBefore(fresh);
                fresh.sibling = lefts;
                lefts = fresh;
            } else {
                smaller.takeNextSibling(fresh);
            }
        }

        private Node lastSmaller(Node siblings) {
            Node last = null;
            for (Node node = siblings; node != null; node = node.sibling) {
                if (node.hasSmallerIdThan(this)) {
                    last = node;
                }
            }
            return last;
        }

        private void takeNextSibling(Node fresh) {
            lastBelow().putBehind(fresh);
            fresh.sibling = sibling;
            sibling = fresh;
        }

        /** The first in the order of this node and all below it. */
        private Node firstBelow() {
            Node first = this;
            while (first.lefts != null) {
                first = first.lefts;
            }
            return first;
        }

        /** The last in the order of this node and all below it. */
        private Node lastBelow() {
            Node last = this;
            for (Node node = rights; node != null; node = last.rights) {
                last = node.lastSibling();
            }
            return last;
        }

        private Node lastSibling() {
            Node last = this;
            while (last.sibling != null) {
                last = last.sibling;
            }
            return last;
        }

        private void putBehind(Node fresh) {
            fresh.previous = this;
            fresh.next = next;
            if (next != null) {
                next.previous = fresh;
            }
            next = fresh;
        }

        /** Nothing comes before the root, on which nothing hangs at the left. */
        private void putBefore(Node fresh) {
            if (previous != null) {
                previous.putBehind(fresh);
            }
        }
    }
}
