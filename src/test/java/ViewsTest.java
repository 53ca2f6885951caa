/** Promises 14 to 20: what there is. */
public final class ViewsTest {
    private static final Class<?> ARGUMENT = IllegalArgumentException.class;
    private static final Class<?> INDEX = IndexOutOfBoundsException.class;

    /** Blocks: 0/4/1/2 8/1/2/- 10/0/0/1 11/1/0/0. */
    private static SumBlocks example() {
        SumBlocks x = new SumBlocks();
        x.begin(5);
        x.want(1);
        x.want(1);
        x.want(6);
        return x;
    }

    private static void size() {
        SumBlocks x = new SumBlocks();
        int[] due = {1, 2, 3, 5, 8, 13, 21, 34, 55, 89, 144, 233, 377, 610, 987};
        for (int order = 0; order < due.length; order++) {
            Checks.due(14, "size(" + order + ")", x.size(order), due[order]);
        }
        for (int order : new int[] {-1, 15, Integer.MIN_VALUE, Integer.MAX_VALUE}) {
            Checks.dueThrow(14, "size(" + order + ")", x, ARGUMENT, () -> x.size(order));
        }
    }

    private static void block() {
        SumBlocks x = example();
        int[][] due = {{0, 4, 1, 2, -1}, {8, 1, 2, -1, 2}, {10, 0, 0, 1, 1}, {11, 1, 0, 0, -1}};
        for (int place = 0; place < due.length; place++) {
            for (int what = 0; what < 5; what++) {
                Checks.due(15, "block(" + place + ", " + what + ")", x.block(place, what), due[place][what]);
            }
        }
        for (int place : new int[] {4, -1, 99, 313, Integer.MIN_VALUE, Integer.MAX_VALUE}) {
            Checks.dueThrow(15, "block(" + place + ", 0)", x, INDEX, () -> x.block(place, 0));
            Checks.dueThrow(15, "block(" + place + ", 5)", x, INDEX, () -> x.block(place, 5));
        }
        for (int what : new int[] {5, -1, Integer.MIN_VALUE, Integer.MAX_VALUE}) {
            Checks.dueThrow(15, "block(0, " + what + ")", x, ARGUMENT, () -> x.block(0, what));
        }
        Checks.dueUnchanged(15, "block(1, 4)", x, () -> x.block(1, 4));
        x.give(1);
        Checks.due(15, "block(1, 4), used partner behind", x.block(1, 4), 2);
        Checks.due(15, "block(2, 4), free partner ahead", x.block(2, 4), 1);
        Checks.due(15, "block(0, 4), partner is cut", x.block(0, 4), -1);
        x.giveAll();
        Checks.due(15, "block(0, 4) of the highest order", x.block(0, 4), -1);
    }

    private static void use() {
        SumBlocks x = example();
        int[][] due = {{3, 1, 1, 1, 11}, {2, 1, 0, 0, 10}, {0, 6, 2, 4, 0}, {-1, -1, -1, -1, -1}};
        for (int use = 0; use < due.length; use++) {
            for (int what = 0; what < 5; what++) {
                Checks.due(16, "use(" + use + ", " + what + ")", x.use(use, what), due[use][what]);
            }
        }
        Checks.due(16, "use(23, 0)", x.use(23, 0), -1);
        for (int use : new int[] {24, -1, Integer.MIN_VALUE, Integer.MAX_VALUE}) {
            Checks.dueThrow(16, "use(" + use + ", 0)", x, INDEX, () -> x.use(use, 0));
            Checks.dueThrow(16, "use(" + use + ", 5)", x, INDEX, () -> x.use(use, 5));
        }
        for (int what : new int[] {5, -1, Integer.MIN_VALUE, Integer.MAX_VALUE}) {
            Checks.dueThrow(16, "use(0, " + what + ")", x, ARGUMENT, () -> x.use(0, what));
            Checks.dueThrow(16, "use(9, " + what + ")", x, ARGUMENT, () -> x.use(9, what));
        }
    }

    private static void at() {
        SumBlocks x = example();
        int[] due = {0, 0, 0, 0, 0, 0, 0, 0, 1, 1, 2, 3, 3};
        for (int cell = 0; cell < due.length; cell++) {
            Checks.due(17, "at(" + cell + ")", x.at(cell), due[cell]);
        }
        for (int cell : new int[] {13, -1, Integer.MIN_VALUE, Integer.MAX_VALUE}) {
            Checks.dueThrow(17, "at(" + cell + ")", x, INDEX, () -> x.at(cell));
        }
        x.begin(14);
        Checks.due(17, "at(986)", x.at(986), 0);
        Checks.dueThrow(17, "at(987)", x, INDEX, () -> x.at(987));
    }

    private static void many() {
        SumBlocks x = example();
        int[] free = {0, 1, 0, 0, 0, 0};
        int[] used = {1, 1, 0, 0, 1, 0};
        for (int order = 0; order < free.length; order++) {
            Checks.due(18, "many(" + order + ", true)", x.many(order, true), free[order]);
            Checks.due(18, "many(" + order + ", false)", x.many(order, false), used[order]);
        }
        Checks.due(18, "many(14, true)", x.many(14, true), 0);
        x.giveAll();
        Checks.due(18, "many(5, true)", x.many(5, true), 1);
        for (int order : new int[] {-1, 15, Integer.MIN_VALUE, Integer.MAX_VALUE}) {
            Checks.dueThrow(18, "many(" + order + ", true)", x, ARGUMENT, () -> x.many(order, true));
            Checks.dueThrow(18, "many(" + order + ", false)", x, ARGUMENT, () -> x.many(order, false));
        }
    }

    private static void count() {
        SumBlocks x = example();
        counts(x, new int[] {13, 5, 4, 1, 3, 2, 8, 3, 3, 0, 3, 1, 4});
        x.give(1);
        counts(x, new int[] {13, 5, 3, 1, 2, 3, 7, 3, 3, 1, 3, 2, 5});
        x.want(3);
        counts(x, new int[] {13, 5, 3, 0, 3, 0, 10, 3, 3, 1, 4, -1, 6});
        x.shrink(2, 3);
        counts(x, new int[] {13, 5, 5, 2, 3, 5, 7, 1, 5, 1, 4, 2, 6});
        x.grow(2, 5);
        counts(x, new int[] {13, 5, 4, 1, 3, 3, 9, 1, 5, 2, 4, 2, 6});
        x.undo();
        counts(x, new int[] {13, 5, 5, 2, 3, 5, 7, 1, 5, 1, 4, 2, 5});
        for (int what : new int[] {-1, 13, Integer.MIN_VALUE, Integer.MAX_VALUE}) {
            Checks.dueThrow(19, "count(" + what + ")", x, ARGUMENT, () -> x.count(what));
        }
    }

    private static void counts(SumBlocks x, int[] due) {
        for (int what = 0; what < due.length; what++) {
            Checks.due(19, "count(" + what + ")", x.count(what), due[what]);
        }
    }

    private static void setting() {
        SumBlocks x = new SumBlocks();
        x.set(1, 1);
        Checks.due(20, "setting(0)", x.setting(0), 0);
        Checks.due(20, "setting(1)", x.setting(1), 1);
        for (int setting : new int[] {-1, 2, Integer.MIN_VALUE, Integer.MAX_VALUE}) {
            Checks.dueThrow(20, "setting(" + setting + ")", x, INDEX, () -> x.setting(setting));
        }
    }

    public static void main(String[] args) {
        size();
        block();
        use();
        at();
        many();
        count();
        setting();
        Checks.end();
    }
}
