import java.util.ArrayList;
import java.util.List;
import java.util.regex.Pattern;

/**
 * A second reading of the document, made another way: the blocks are the leaves of a tree, so that a
 * partner is the other piece of the same cut, and every call copies the whole tree for undo().
 */
final class TreeModel {
    private static final int NONE = -1;
    private static final Pattern ROW =
            Pattern.compile("(w[1-9][0-9]{0,2}|g([0-9]|1[0-9]|2[0-3]))(;(w[1-9][0-9]{0,2}|g([0-9]|1[0-9]|2[0-3])))*");

    private static final class Node {
        int address;
        int order;
        int count;
        int use = NONE;
        Node parent;
        Node left;
        Node right;

        Node copy(Node newParent) {
            Node made = new Node();
            made.address = address;
            made.order = order;
            made.count = count;
            made.use = use;
            made.parent = newParent;
            made.left = left == null ? null : left.copy(made);
            made.right = right == null ? null : right.copy(made);
            return made;
        }

        Node other() {
            return parent == null ? null : parent.left == this ? parent.right : parent.left;
        }

        boolean isWhole() {
            return left == null;
        }

        boolean isFree() {
            return isWhole() && use == NONE;
        }
    }

    private static final class State {
        Node root;
        int[] wishes = new int[24];
        int[] settings = new int[2];
        int cuts;
        int joins;
        int granted;

        State copy() {
            State made = new State();
            made.root = root.copy(null);
            made.wishes = wishes.clone();
            made.settings = settings.clone();
            made.cuts = cuts;
            made.joins = joins;
            made.granted = granted;
            return made;
        }
    }

    private State state = new State();
    private final List<State> saved = new ArrayList<>();
    private String buffer = "";

    TreeModel() {
        state.root = whole(9);
    }

    private static Node whole(int order) {
        Node made = new Node();
        made.order = order;
        return made;
    }

    private static int sizeOf(int order) {
        return order <= 0 ? 1 : order == 1 ? 2 : sizeOf(order - 1) + sizeOf(order - 2);
    }

    private void save() {
        saved.add(state.copy());
        if (saved.size() > 6) {
            saved.remove(0);
        }
    }

    private List<Node> leaves() {
        List<Node> found = new ArrayList<>();
        collect(state.root, found);
        return found;
    }

    private static void collect(Node node, List<Node> found) {
        if (node.isWhole()) {
            found.add(node);
        } else {
            collect(node.left, found);
            collect(node.right, found);
        }
    }

    private Node blockOf(int use) {
        for (Node leaf : leaves()) {
            if (leaf.use == use) {
                return leaf;
            }
        }
        return null;
    }

    private boolean isUse(int use) {
        return use >= 0 && use < 24 && state.wishes[use] > 0;
    }

    private void cut(Node node) {
        node.left = new Node();
        node.left.parent = node;
        node.left.address = node.address;
        node.left.order = node.order - 1;
        node.left.count = node.count + 1;
        node.right = new Node();
        node.right.parent = node;
        node.right.address = node.address + sizeOf(node.order - 1);
        node.right.order = node.order - 2;
        node.right.count = 0;
        state.cuts++;
    }

    private Node join(Node parent) {
        parent.count = parent.left.count - 1;
        parent.left = null;
        parent.right = null;
        state.joins++;
        return parent;
    }

    private static int least(int cells) {
        int order = 0;
        while (sizeOf(order) < cells) {
            order++;
        }
        return order;
    }

    private Node freeFor(int order) {
        Node best = null;
        for (Node leaf : leaves()) {
            if (leaf.isFree() && leaf.order >= order) {
                boolean better = best == null
                        || state.settings[0] == 0 && leaf.order < best.order;
                best = better ? leaf : best;
            }
        }
        return best;
    }

    private int freeNumber() {
        for (int use = 0; use < 24; use++) {
            if (state.wishes[use] == 0) {
                return use;
            }
        }
        return NONE;
    }

    private Node place(Node from, int least) {
        Node node = from;
        while (node.order >= 2 && node.order - 1 >= least) {
            cut(node);
            node = state.settings[1] == 0 && node.order - 2 >= least ? node.right : node.left;
        }
        return node;
    }

    int begin(int order) {
        if (order < 3 || order > 14) {
            throw new IllegalArgumentException();
        }
        save();
        state.root = whole(order);
        state.wishes = new int[24];
        return sizeOf(order);
    }

    int want(int cells) {
        if (cells < 1 || cells > 999) {
            throw new IllegalArgumentException();
        }
        if (freeNumber() == NONE || freeFor(least(cells)) == null) {
            throw new IllegalStateException();
        }
        save();
        return granted(cells);
    }

    private int granted(int cells) {
        int use = freeNumber();
        place(freeFor(least(cells)), least(cells)).use = use;
        state.wishes[use] = cells;
        state.granted++;
        return use;
    }

    int give(int use) {
        if (!isUse(use)) {
            throw new IllegalArgumentException();
        }
        save();
        return given(use);
    }

    private int given(int use) {
        Node node = blockOf(use);
        node.use = NONE;
        state.wishes[use] = 0;
        int often = 0;
        while (node.other() != null && node.other().isFree()) {
            node = join(node.parent);
            often++;
        }
        return often;
    }

    int giveAll() {
        save();
        int many = 0;
        for (int use = 0; use < 24; use++) {
            if (isUse(use)) {
                given(use);
                many++;
            }
        }
        return many;
    }

    int grow(int use, int cells) {
        if (!isUse(use) || cells < 1 || cells > 999 || cells < state.wishes[use]) {
            throw new IllegalArgumentException();
        }
        if (reach(use) < cells) {
            throw new IllegalStateException();
        }
        save();
        Node node = blockOf(use);
        while (sizeOf(node.order) < cells) {
            node.use = NONE;
            node = join(node.parent);
            node.use = use;
        }
        state.wishes[use] = cells;
        return node.order;
    }

    int shrink(int use, int cells) {
        if (!isUse(use) || cells < 1 || cells > state.wishes[use]) {
            throw new IllegalArgumentException();
        }
        save();
        Node node = blockOf(use);
        while (node.order >= 2 && sizeOf(node.order - 1) >= cells) {
            cut(node);
            node.use = NONE;
            node = node.left;
            node.use = use;
        }
        state.wishes[use] = cells;
        return node.order;
    }

    int set(int setting, int value) {
        int before = setting(setting);
        if (value != 0 && value != 1) {
            throw new IllegalArgumentException();
        }
        save();
        state.settings[setting] = value;
        return before;
    }

    int append(int code) {
        if (code < 33 || code > 126) {
            throw new IllegalArgumentException();
        }
        if (buffer.length() == 60) {
            throw new IllegalStateException();
        }
        buffer = buffer + (char) code;
        return buffer.length();
    }

    int clearBuffer() {
        int length = buffer.length();
        buffer = "";
        return length;
    }

    int firstError() {
        for (int index = 0; index < buffer.length(); index++) {
            String start = buffer.substring(0, index + 1);
            if (!isRow(start) && !isRow(start + "1") && !isRow(start + "w1")) {
                return index;
            }
        }
        return buffer.length();
    }

    private static boolean isRow(String text) {
        return ROW.matcher(text).matches();
    }

    int run() {
        if (!isRow(buffer)) {
            throw new IllegalArgumentException();
        }
        save();
        int done = 0;
        for (String order : buffer.split(";")) {
            int number = Integer.parseInt(order.substring(1));
            if (order.charAt(0) == 'w') {
                if (freeNumber() == NONE || freeFor(least(number)) == null) {
                    break;
                }
                granted(number);
            } else {
                if (!isUse(number)) {
                    break;
                }
                given(number);
            }
            done++;
        }
        buffer = "";
        return done;
    }

    int undo() {
        if (saved.isEmpty()) {
            throw new IllegalStateException();
        }
        state = saved.remove(saved.size() - 1);
        return saved.size();
    }

    int size(int order) {
        if (order < 0 || order > 14) {
            throw new IllegalArgumentException();
        }
        return sizeOf(order);
    }

    int block(int place, int what) {
        List<Node> leaves = leaves();
        if (place < 0 || place >= leaves.size()) {
            throw new IndexOutOfBoundsException();
        }
        if (what < 0 || what > 4) {
            throw new IllegalArgumentException();
        }
        Node leaf = leaves.get(place);
        int partner = leaf.other() == null ? NONE : leaves.indexOf(leaf.other());
        return new int[] {leaf.address, leaf.order, leaf.count, leaf.use, partner}[what];
    }

    int use(int use, int what) {
        if (use < 0 || use > 23) {
            throw new IndexOutOfBoundsException();
        }
        if (what < 0 || what > 4) {
            throw new IllegalArgumentException();
        }
        if (!isUse(use)) {
            return NONE;
        }
        Node leaf = blockOf(use);
        int wish = state.wishes[use];
        int place = leaves().indexOf(leaf);
        return new int[] {place, wish, sizeOf(leaf.order) - wish, leaf.order, leaf.address}[what];
    }

    int at(int cell) {
        List<Node> leaves = leaves();
        for (int place = 0; place < leaves.size(); place++) {
            Node leaf = leaves.get(place);
            if (cell >= leaf.address && cell < leaf.address + sizeOf(leaf.order)) {
                return place;
            }
        }
        throw new IndexOutOfBoundsException();
    }

    int many(int order, boolean isFree) {
        size(order);
        int found = 0;
        for (Node leaf : leaves()) {
            found += leaf.order == order && leaf.isFree() == isFree ? 1 : 0;
        }
        return found;
    }

    int count(int what) {
        if (what < 0 || what > 12) {
            throw new IllegalArgumentException();
        }
        int free = 0;
        int freeCells = 0;
        int greatest = NONE;
        for (Node leaf : leaves()) {
            if (leaf.isFree()) {
                free++;
                freeCells += sizeOf(leaf.order);
                greatest = Math.max(greatest, leaf.order);
            }
        }
        int wished = 0;
        for (int wish : state.wishes) {
            wished += wish;
        }
        int cells = sizeOf(state.root.order);
        int all = leaves().size();
        return new int[] {cells, state.root.order, all, free, all - free, freeCells, wished,
            cells - freeCells - wished, state.cuts, state.joins, state.granted, greatest,
            saved.size()}[what];
    }

    int setting(int setting) {
        if (setting != 0 && setting != 1) {
            throw new IndexOutOfBoundsException();
        }
        return state.settings[setting];
    }

    int ifWanted(int cells, int what) {
        if (cells < 1 || cells > 999 || what < 0 || what > 3) {
            throw new IllegalArgumentException();
        }
        State kept = state;
        state = kept.copy();
        int answer = NONE;
        Node from = freeFor(least(cells));
        if (from != null) {
            Node got = place(from, least(cells));
            int cuts = state.cuts - kept.cuts;
            answer = new int[] {got.address, got.order, cuts, sizeOf(got.order) - cells}[what];
        }
        state = kept;
        return answer;
    }

    int ifGiven(int use) {
        use(use, 0);
        if (!isUse(use)) {
            return NONE;
        }
        State kept = state;
        state = kept.copy();
        int answer = given(use);
        state = kept;
        return answer;
    }

    int reach(int use) {
        use(use, 0);
        if (!isUse(use)) {
            return NONE;
        }
        Node node = blockOf(use);
        while (node.parent != null && node.parent.left == node && node.other().isFree()) {
            node = node.parent;
        }
        return sizeOf(node.order);
    }

    int blocker() {
        int best = NONE;
        int bestOrder = NONE;
        for (int use = 0; use < 24; use++) {
            if (isUse(use)) {
                State kept = state;
                state = kept.copy();
                given(use);
                int order = count(11);
                state = kept;
                if (order > bestOrder) {
                    best = use;
                    bestOrder = order;
                }
            }
        }
        return best;
    }

    int byWay(int place) {
        return block(place, 4);
    }

    double wasteShare() {
        int used = count(0) - count(5);
        return used == 0 ? 0.0 : (double) count(7) / used;
    }

    long digest() {
        List<Long> values = new ArrayList<>();
        for (int what = 0; what <= 12; what++) {
            values.add((long) count(what));
        }
        values.add((long) setting(0));
        values.add((long) setting(1));
        for (int place = 0; place < leaves().size(); place++) {
            for (int what = 0; what <= 4; what++) {
                values.add((long) block(place, what));
            }
            values.add((long) byWay(place));
        }
        for (int use = 0; use < 24; use++) {
            for (int what = 0; what <= 4; what++) {
                values.add((long) use(use, what));
            }
            values.add((long) ifGiven(use));
            values.add((long) reach(use));
        }
        for (int cells : new int[] {1, 7, 50}) {
            for (int what = 0; what <= 3; what++) {
                values.add((long) ifWanted(cells, what));
            }
        }
        values.add((long) blocker());
        values.add(Double.doubleToLongBits(wasteShare()));
        values.add((long) buffer.length());
        for (char code : buffer.toCharArray()) {
            values.add((long) code);
        }
        long hash = 2557;
        for (long value : values) {
            hash = 31 * hash + value;
        }
        return hash;
    }
}
