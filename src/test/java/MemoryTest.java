/** Promises 1 to 8: a new object, and the calls that change the memory. */
public final class MemoryTest {
    private static final Class<?> ARGUMENT = IllegalArgumentException.class;
    private static final Class<?> STATE = IllegalStateException.class;
    private static final Class<?> INDEX = IndexOutOfBoundsException.class;

    private static void newObject() {
        SumBlocks x = new SumBlocks();
        int[] due = {89, 9, 1, 1, 0, 89, 0, 0, 0, 0, 0, 9, 0};
        for (int what = 0; what < due.length; what++) {
            Checks.due(1, "count(" + what + ")", x.count(what), due[what]);
        }
        Checks.due(1, "blocks", Checks.blocks(x), "0/9/0/-");
        Checks.due(1, "setting(0)", x.setting(0), 0);
        Checks.due(1, "setting(1)", x.setting(1), 0);
        Checks.due(1, "clearBuffer()", x.clearBuffer(), 0);
        Checks.dueThrow(1, "undo()", x, STATE, x::undo);
        SumBlocks other = new SumBlocks();
        other.want(5);
        Checks.due(1, "blocks, with another object", Checks.blocks(x), "0/9/0/-");
    }

    private static void begin() {
        int[] sizes = {5, 8, 13, 21, 34, 55, 89, 144, 233, 377, 610, 987};
        SumBlocks x = new SumBlocks();
        for (int order = 3; order <= 14; order++) {
            Checks.due(2, "begin(" + order + ")", x.begin(order), sizes[order - 3]);
            Checks.due(2, "blocks", Checks.blocks(x), "0/" + order + "/0/-");
            Checks.due(2, "count(0)", x.count(0), sizes[order - 3]);
        }
        Checks.due(2, "count(12)", x.count(12), 6);
        x.set(0, 1);
        x.want(2);
        x.want(3);
        x.give(1);
        int cuts = x.count(8);
        int joins = x.count(9);
        Checks.due(2, "begin(4)", x.begin(4), 8);
        Checks.due(2, "count(4)", x.count(4), 0);
        Checks.due(2, "use(0, 1)", x.use(0, 1), -1);
        Checks.due(2, "setting(0)", x.setting(0), 1);
        Checks.due(2, "count(8)", x.count(8), cuts);
        Checks.due(2, "count(9)", x.count(9), joins);
        Checks.due(2, "count(10)", x.count(10), 2);
        x.undo();
        Checks.due(2, "use(0, 1) behind undo()", x.use(0, 1), 2);
        for (int order : new int[] {2, 15, 0, -1, Integer.MIN_VALUE, Integer.MAX_VALUE}) {
            Checks.dueThrow(2, "begin(" + order + ")", x, ARGUMENT, () -> x.begin(order));
        }
    }

    private static void want() {
        SumBlocks x = new SumBlocks();
        x.begin(5);
        Checks.due(3, "want(1)", x.want(1), 0);
        Checks.due(3, "blocks", Checks.blocks(x), "0/4/1/- 8/2/1/- 11/1/0/0");
        Checks.due(3, "want(1)", x.want(1), 1);
        Checks.due(3, "blocks", Checks.blocks(x), "0/4/1/- 8/1/2/- 10/0/0/1 11/1/0/0");
        Checks.due(3, "want(6)", x.want(6), 2);
        Checks.due(3, "blocks", Checks.blocks(x), "0/4/1/2 8/1/2/- 10/0/0/1 11/1/0/0");
        Checks.due(3, "count(8)", x.count(8), 3);
        Checks.due(3, "count(10)", x.count(10), 3);
        Checks.dueThrow(3, "want(3)", x, STATE, () -> x.want(3));
        x.give(0);
        Checks.due(3, "want(2)", x.want(2), 0);
        Checks.due(3, "blocks", Checks.blocks(x), "0/4/1/2 8/1/2/0 10/0/0/1 11/1/0/-");
        for (int cells : new int[] {0, -1, 1000, Integer.MIN_VALUE, Integer.MAX_VALUE}) {
            Checks.dueThrow(3, "want(" + cells + ")", x, ARGUMENT, () -> x.want(cells));
        }
    }

    private static void wantByRules() {
        SumBlocks left = new SumBlocks();
        left.begin(6);
        left.set(1, 1);
        left.want(1);
        Checks.due(3, "blocks, left", Checks.blocks(left),
                "0/1/5/0 2/0/0/- 3/1/0/- 5/2/0/- 8/3/0/- 13/4/0/-");
        SumBlocks lowest = new SumBlocks();
        lowest.begin(6);
        lowest.want(3);
        Checks.due(3, "blocks, right", Checks.blocks(lowest), "0/5/1/- 13/3/1/- 18/2/0/0");
        lowest.set(0, 1);
        lowest.want(3);
        Checks.due(3, "blocks, lowest address", Checks.blocks(lowest),
                "0/4/2/- 8/2/1/1 11/1/0/- 13/3/1/- 18/2/0/0");
        lowest.set(0, 0);
        lowest.want(2);
        Checks.due(3, "blocks, least order", Checks.blocks(lowest),
                "0/4/2/- 8/2/1/1 11/1/0/2 13/3/1/- 18/2/0/0");
        lowest.want(1);
        Checks.due(3, "blocks, least order of those there", Checks.blocks(lowest),
                "0/4/2/- 8/2/1/1 11/1/0/2 13/2/2/- 16/1/0/3 18/2/0/0");
    }

    private static void wantOfEqualOrders() {
        SumBlocks x = new SumBlocks();
        x.begin(5);
        x.set(1, 1);
        x.want(2);
        x.want(1);
        Checks.due(3, "blocks", Checks.blocks(x), "0/1/4/0 2/0/0/1 3/1/0/- 5/2/0/- 8/3/0/-");
        x.want(3);
        x.set(1, 0);
        x.want(1);
        x.want(2);
        x.want(1);
        Checks.due(3, "blocks", Checks.blocks(x), "0/1/4/0 2/0/0/1 3/1/0/3 5/2/0/2 8/1/2/- 10/0/0/5 11/1/0/4");
        x.give(3);
        x.want(2);
        Checks.due(3, "the lower of two", x.use(3, 4), 3);
    }

    private static void wantUpToTheEnd() {
        SumBlocks x = new SumBlocks();
        x.begin(14);
        Checks.due(3, "want(987)", x.want(987), 0);
        x.begin(14);
        Checks.dueThrow(3, "want(988)", x, STATE, () -> x.want(988));
        Checks.dueThrow(3, "want(999)", x, STATE, () -> x.want(999));
        for (int use = 0; use < 24; use++) {
            Checks.due(3, "want(1)", x.want(1), use);
        }
        Checks.dueThrow(3, "want(1), with 24 uses", x, STATE, () -> x.want(1));
        Checks.dueThrow(3, "want(0), with 24 uses", x, ARGUMENT, () -> x.want(0));
        x.give(17);
        x.give(5);
        Checks.due(3, "the lowest number", x.want(1), 5);
        Checks.due(3, "the next one", x.want(1), 17);
    }

    private static void give() {
        SumBlocks x = new SumBlocks();
        x.begin(5);
        x.want(1);
        x.want(1);
        x.want(6);
        Checks.due(4, "give(2)", x.give(2), 0);
        Checks.due(4, "blocks", Checks.blocks(x), "0/4/1/- 8/1/2/- 10/0/0/1 11/1/0/0");
        Checks.due(4, "give(0)", x.give(0), 0);
        Checks.due(4, "give(1)", x.give(1), 3);
        Checks.due(4, "blocks", Checks.blocks(x), "0/5/0/-");
        Checks.due(4, "count(9)", x.count(9), 3);
        Checks.due(4, "count(12)", x.count(12), 6);
        x.undo();
        Checks.due(4, "blocks behind undo()", Checks.blocks(x), "0/4/1/- 8/1/2/- 10/0/0/1 11/1/0/-");
        for (int use : new int[] {0, 2, 23, 24, -1, Integer.MIN_VALUE, Integer.MAX_VALUE}) {
            Checks.dueThrow(4, "give(" + use + ")", x, ARGUMENT, () -> x.give(use));
        }
    }

    private static void giveBehindAndAhead() {
        SumBlocks x = new SumBlocks();
        x.begin(4);
        x.set(1, 1);
        x.want(3);
        x.want(2);
        Checks.due(4, "blocks", Checks.blocks(x), "0/2/2/0 3/1/0/1 5/2/0/-");
        Checks.due(4, "give(0)", x.give(0), 0);
        Checks.due(4, "blocks", Checks.blocks(x), "0/2/2/- 3/1/0/1 5/2/0/-");
        Checks.due(4, "give(1)", x.give(1), 2);
        Checks.due(4, "blocks", Checks.blocks(x), "0/4/0/-");
    }

    private static void giveAll() {
        SumBlocks x = new SumBlocks();
        Checks.due(5, "giveAll() without uses", x.giveAll(), 0);
        Checks.due(5, "count(12)", x.count(12), 1);
        x.want(4);
        x.want(10);
        x.want(1);
        x.give(1);
        Checks.due(5, "giveAll()", x.giveAll(), 2);
        Checks.due(5, "blocks", Checks.blocks(x), "0/9/0/-");
        Checks.due(5, "count(8)", x.count(8), x.count(9));
        Checks.due(5, "undo()", x.undo(), 5);
        Checks.due(5, "count(4) behind undo()", x.count(4), 2);
        Checks.due(5, "use(2, 1) behind undo()", x.use(2, 1), 1);
    }

    private static void grow() {
        SumBlocks x = new SumBlocks();
        x.begin(6);
        x.set(1, 1);
        x.want(1);
        Checks.due(6, "grow(0, 2)", x.grow(0, 2), 1);
        Checks.due(6, "use(0, 1)", x.use(0, 1), 2);
        Checks.due(6, "use(0, 2)", x.use(0, 2), 0);
        Checks.due(6, "grow(0, 2) again", x.grow(0, 2), 1);
        Checks.due(6, "grow(0, 4)", x.grow(0, 4), 3);
        Checks.due(6, "blocks", Checks.blocks(x), "0/3/3/0 5/2/0/- 8/3/0/- 13/4/0/-");
        Checks.due(6, "count(9)", x.count(9), 2);
        x.want(2);
        Checks.due(6, "blocks", Checks.blocks(x), "0/3/3/0 5/1/1/1 7/0/0/- 8/3/0/- 13/4/0/-");
        Checks.dueThrow(6, "grow(0, 6), partner is cut", x, STATE, () -> x.grow(0, 6));
        Checks.due(6, "grow(1, 3)", x.grow(1, 3), 2);
        Checks.dueThrow(6, "grow(0, 6), partner is used", x, STATE, () -> x.grow(0, 6));
        Checks.dueThrow(6, "grow(1, 4), partner is ahead", x, STATE, () -> x.grow(1, 4));
        x.give(0);
        Checks.dueThrow(6, "grow(1, 4), partner is free, but ahead", x, STATE, () -> x.grow(1, 4));
        x.undo();
        x.give(1);
        Checks.dueThrow(6, "grow(0, 22), more than there is", x, STATE, () -> x.grow(0, 22));
        Checks.dueThrow(6, "grow(0, 999)", x, STATE, () -> x.grow(0, 999));
        Checks.due(6, "grow(0, 21)", x.grow(0, 21), 6);
        Checks.due(6, "blocks", Checks.blocks(x), "0/6/0/0");
        x.undo();
        Checks.due(6, "blocks behind undo()", Checks.blocks(x), "0/3/3/0 5/2/0/- 8/3/0/- 13/4/0/-");
        for (int cells : new int[] {3, 0, -1, 1000, Integer.MIN_VALUE, Integer.MAX_VALUE}) {
            Checks.dueThrow(6, "grow(0, " + cells + ")", x, ARGUMENT, () -> x.grow(0, cells));
        }
        for (int use : new int[] {1, 24, -1, Integer.MIN_VALUE, Integer.MAX_VALUE}) {
            Checks.dueThrow(6, "grow(" + use + ", 9)", x, ARGUMENT, () -> x.grow(use, 9));
        }
    }

    private static void shrink() {
        SumBlocks x = new SumBlocks();
        x.begin(6);
        x.want(21);
        Checks.due(7, "shrink(0, 14)", x.shrink(0, 14), 6);
        Checks.due(7, "use(0, 2)", x.use(0, 2), 7);
        Checks.due(7, "shrink(0, 13)", x.shrink(0, 13), 5);
        Checks.due(7, "blocks", Checks.blocks(x), "0/5/1/0 13/4/0/-");
        Checks.due(7, "shrink(0, 4)", x.shrink(0, 4), 3);
        Checks.due(7, "blocks", Checks.blocks(x), "0/3/3/0 5/2/0/- 8/3/0/- 13/4/0/-");
        Checks.due(7, "shrink(0, 4) again", x.shrink(0, 4), 3);
        Checks.due(7, "count(8)", x.count(8), 3);
        Checks.due(7, "count(12)", x.count(12), 6);
        Checks.dueThrow(7, "shrink(0, 5)", x, ARGUMENT, () -> x.shrink(0, 5));
        Checks.due(7, "shrink(0, 1)", x.shrink(0, 1), 1);
        Checks.due(7, "blocks", Checks.blocks(x), "0/1/5/0 2/0/0/- 3/1/0/- 5/2/0/- 8/3/0/- 13/4/0/-");
        x.undo();
        Checks.due(7, "blocks behind undo()", Checks.blocks(x), "0/3/3/0 5/2/0/- 8/3/0/- 13/4/0/-");
        Checks.due(7, "use(0, 1) behind undo()", x.use(0, 1), 4);
        for (int cells : new int[] {0, -1, 999, Integer.MIN_VALUE, Integer.MAX_VALUE}) {
            Checks.dueThrow(7, "shrink(0, " + cells + ")", x, ARGUMENT, () -> x.shrink(0, cells));
        }
        for (int use : new int[] {1, 24, -1, Integer.MIN_VALUE, Integer.MAX_VALUE}) {
            Checks.dueThrow(7, "shrink(" + use + ", 1)", x, ARGUMENT, () -> x.shrink(use, 1));
        }
        x.begin(14);
        x.want(900);
        Checks.due(7, "shrink(0, 2) of the whole memory", x.shrink(0, 2), 1);
        Checks.due(7, "count(2)", x.count(2), 14);
    }

    private static void set() {
        SumBlocks x = new SumBlocks();
        Checks.due(8, "set(0, 1)", x.set(0, 1), 0);
        Checks.due(8, "set(0, 1) again", x.set(0, 1), 1);
        Checks.due(8, "setting(1)", x.setting(1), 0);
        Checks.due(8, "set(1, 1)", x.set(1, 1), 0);
        Checks.due(8, "set(0, 0)", x.set(0, 0), 1);
        Checks.due(8, "setting(1)", x.setting(1), 1);
        Checks.due(8, "count(12)", x.count(12), 4);
        x.undo();
        Checks.due(8, "setting(0) behind undo()", x.setting(0), 1);
        x.want(9);
        String blocks = Checks.blocks(x);
        x.set(1, 0);
        Checks.due(8, "blocks", Checks.blocks(x), blocks);
        for (int wrong : new int[] {2, -1, Integer.MIN_VALUE, Integer.MAX_VALUE}) {
            Checks.dueThrow(8, "set(" + wrong + ", 0)", x, INDEX, () -> x.set(wrong, 0));
            Checks.dueThrow(8, "set(" + wrong + ", 2)", x, INDEX, () -> x.set(wrong, 2));
            Checks.dueThrow(8, "set(0, " + wrong + ")", x, ARGUMENT, () -> x.set(0, wrong));
            Checks.dueThrow(8, "set(1, " + wrong + ")", x, ARGUMENT, () -> x.set(1, wrong));
        }
    }

    public static void main(String[] args) {
        newObject();
        begin();
        want();
        wantByRules();
        wantOfEqualOrders();
        wantUpToTheEnd();
        give();
        giveBehindAndAhead();
        giveAll();
        grow();
        shrink();
        set();
        Checks.end();
    }
}
