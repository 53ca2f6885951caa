/** The edges that the promises 1 to 8 name, sentence by sentence. */
public final class EdgesOfMemoryTest {
    private static final Class<?> ARGUMENT = IllegalArgumentException.class;
    private static final Class<?> STATE = IllegalStateException.class;
    private static final Class<?> INDEX = IndexOutOfBoundsException.class;
    private static final int[] SIZES = {1, 2, 3, 5, 8, 13, 21, 34, 55, 89, 144, 233, 377, 610, 987};

    private static SumBlocks begun(int order) {
        SumBlocks x = new SumBlocks();
        x.begin(order);
        return x;
    }

    private static void newObject() {
        Checks.says(1, "Creates a memory of the order 9, free, with an empty buffer.");
        SumBlocks x = new SumBlocks();
        Checks.due("blocks", Checks.blocks(x), "0/9/0/-");
        int[] counts = {89, 9, 1, 1, 0, 89, 0, 0, 0, 0, 0, 9, 0};
        for (int what = 0; what < counts.length; what++) {
            Checks.due("count(" + what + ")", x.count(what), counts[what]);
        }
        for (int use = 0; use < 24; use++) {
            Checks.due("use(" + use + ", 1)", x.use(use, 1), -1);
        }
        Checks.due("firstError() of an empty buffer", x.firstError(), 0);
        Checks.due("clearBuffer() of an empty buffer", x.clearBuffer(), 0);
        SumBlocks used = new SumBlocks();
        Twins.fullBufferAndSavedStates(used);
        Checks.due("what there is, with another object", Twins.story(x), Twins.story(new SumBlocks()));
    }

    private static void begin() {
        Checks.says(2, "Begins a memory that is free (settings, and what is counted so far, stay).");
        for (Twins.Making state : Twins.STATES) {
            SumBlocks x = Twins.made(state);
            int[] kept = {x.setting(0), x.setting(1), x.count(8), x.count(9), x.count(10)};
            int buffer = x.firstError();
            x.begin(6);
            Checks.due("blocks", Checks.blocks(x), "0/6/0/-");
            Checks.due("count(4)", x.count(4), 0);
            Checks.due("count(6)", x.count(6), 0);
            Checks.due("setting(0)", x.setting(0), kept[0]);
            Checks.due("setting(1)", x.setting(1), kept[1]);
            for (int what = 8; what <= 10; what++) {
                Checks.due("count(" + what + ")", x.count(what), kept[what - 6]);
            }
            Checks.due("firstError(), as the buffer stays", x.firstError(), buffer);
            Checks.due("want(1), the first number again", x.want(1), 0);
        }
        Checks.says(2, "Undoable.");
        for (Twins.Making state : Twins.STATES) {
            Twins.savesOne("begin(3)", state, x -> x.begin(3));
            Twins.savesOne("begin(14)", state, x -> x.begin(14));
        }
        Checks.says(2, "`order`: its highest order, 3 to 14");
        Checks.due("count(1) of the least", begun(3).count(1), 3);
        Checks.due("count(1) of the greatest", begun(14).count(1), 14);
        Checks.says(2, "Returns its cells.");
        for (int order = 3; order <= 14; order++) {
            Checks.due("begin(" + order + ")", new SumBlocks().begin(order), SIZES[order]);
        }
        Checks.says(2, "Throws `IllegalArgumentException` if order is out of range");
        for (int order : Twins.outside(3, 14)) {
            Twins.refusedInEachState("begin(" + order + ")", ARGUMENT, x -> x.begin(order));
        }
    }

    private static void want() {
        Checks.says(3, "Wishes for cells.");
        SumBlocks x = new SumBlocks();
        x.want(6);
        Checks.due("use(0, 1)", x.use(0, 1), 6);
        Checks.due("use(0, 3)", x.use(0, 3), 4);
        Checks.due("count(10)", x.count(10), 1);
        Checks.says(3, "Undoable.");
        for (Twins.Making state : Twins.STATES) {
            SumBlocks y = Twins.made(state);
            if (y.count(4) < 24 && y.count(3) > 0) {
                Twins.savesOne("want(1)", state, z -> z.want(1));
            }
        }
        Checks.says(3, "`cells`: 1 to 999");
        Checks.due("want(1)", begun(14).want(1), 0);
        Checks.due("want(987), the most that a block has", begun(14).want(987), 0);
        Checks.due("want(999), allowed, but no block does", Checks.outcome(() -> begun(14).want(999)),
                "IllegalStateException");
        Checks.due("want(1000)", Checks.outcome(() -> begun(14).want(1000)), "IllegalArgumentException");
        Checks.due("want(0)", Checks.outcome(() -> begun(14).want(0)), "IllegalArgumentException");
        Checks.says(3, "Returns the number of the use.");
        SumBlocks numbers = begun(14);
        for (int use = 0; use < 24; use++) {
            Checks.due("want(1)", numbers.want(1), use);
            Checks.due("use(" + use + ", 1)", numbers.use(use, 1), 1);
        }
        Checks.says(3, "Throws `IllegalArgumentException` if cells is out of range");
        for (int cells : Twins.outside(1, 999)) {
            Twins.refusedInEachState("want(" + cells + ")", ARGUMENT, y -> y.want(cells));
        }
    }

    private static void wantIsRefused() {
        Checks.says(3, "Throws `IllegalStateException` if there are 24 uses, or no free block does");
        Twins.refused("want(1) with 24 uses", STATE, Twins::allUses, x -> x.want(1));
        Twins.refused("want(999) with 24 uses", STATE, Twins::allUses, x -> x.want(999));
        Twins.refused("want(1) without a free block", STATE, Twins::fullMemory, x -> x.want(1));
        for (int order = 3; order <= 14; order++) {
            int highest = order;
            Checks.due("want of all cells", begun(order).want(SIZES[order]), 0);
            Twins.refused("want of one cell more", STATE, x -> x.begin(highest),
                    x -> x.want(SIZES[highest] + 1));
        }
        Twins.Making leftIsFree = x -> {
            x.begin(4);
            x.want(3);
        };
        Checks.due("want(5), the greatest free block", Twins.made(leftIsFree).want(5), 1);
        Twins.refused("want(6), greater than the greatest free block", STATE, leftIsFree, x -> x.want(6));
        Twins.Making twoHalves = x -> {
            x.begin(5);
            x.set(1, 1);
            x.want(2);
        };
        Checks.due("count(5), in several blocks", Twins.made(twoHalves).count(5), 11);
        Checks.due("want(5), in one block", Twins.made(twoHalves).want(5), 1);
        Twins.refused("want(6), only in several blocks", STATE, twoHalves, x -> x.want(6));
    }

    private static void give() {
        Checks.says(4, "Gives a use back.");
        SumBlocks x = Twins.made(Twins::someUses);
        x.give(1);
        Checks.due("blocks", Checks.blocks(x), "0/4/1/2 8/2/1/- 11/1/0/0");
        Checks.due("use(1, 1)", x.use(1, 1), -1);
        Checks.due("count(4)", x.count(4), 2);
        Checks.says(4, "Undoable.");
        Twins.savesOne("give(0)", Twins::someUses, y -> y.give(0));
        Twins.savesOne("give(23)", Twins::allUses, y -> y.give(23));
        Twins.savesOne("give(0)", Twins::fullMemory, y -> y.give(0));
        Checks.says(4, "`use`: its number");
        Checks.due("give(0), the first number", Twins.made(Twins::allUses).give(0), 0);
        SumBlocks last = Twins.made(Twins::allUses);
        last.give(23);
        Checks.due("use(23, 1), the last number", last.use(23, 1), -1);
        Checks.due("count(4)", last.count(4), 23);
        Checks.says(4, "Returns how often blocks are joined by it.");
        Checks.due("give(0), not at all", Twins.made(Twins::fullMemory).give(0), 0);
        Checks.due("give(2), not at all", Twins.made(Twins::someUses).give(2), 0);
        Checks.due("give(1), once", Twins.made(Twins::someUses).give(1), 1);
        SumBlocks most = begun(14);
        most.set(1, 1);
        most.want(1);
        Checks.due("give(0), most often", most.give(0), 13);
        Checks.says(4, "Throws `IllegalArgumentException` if there is no such use");
        for (int use : Twins.outside(0, 23)) {
            Twins.refusedInEachState("give(" + use + ")", ARGUMENT, y -> y.give(use));
        }
        for (int use = 0; use <= 23; use++) {
            int number = use;
            Twins.refused("give(" + use + ") without uses", ARGUMENT, y -> { }, y -> y.give(number));
        }
        Twins.refused("give(3), the next number", ARGUMENT, Twins::someUses, y -> y.give(3));
        Twins.refused("give(1) twice", ARGUMENT, y -> {
            Twins.someUses(y);
            y.give(1);
        }, y -> y.give(1));
        Twins.refused("give(0) behind begin", ARGUMENT, y -> {
            Twins.someUses(y);
            y.begin(9);
        }, y -> y.give(0));
    }

    private static void giveAll() {
        Checks.says(5, "Gives all uses back, by ascending numbers.");
        for (Twins.Making state : Twins.STATES) {
            SumBlocks x = Twins.made(state);
            SumBlocks oneByOne = Twins.made(state);
            for (int use = 0; use <= 23; use++) {
                if (oneByOne.use(use, 1) > 0) {
                    oneByOne.give(use);
                }
            }
            x.giveAll();
            Checks.due("what there is", Twins.seen(x), Twins.seen(oneByOne));
            Checks.due("count(2)", x.count(2), 1);
            Checks.due("count(3)", x.count(3), 1);
        }
        Checks.says(5, "Undoable, as one call.");
        for (Twins.Making state : Twins.STATES) {
            Twins.savesOne("giveAll()", state, SumBlocks::giveAll);
        }
        Checks.says(5, "Returns how many there were.");
        Checks.due("giveAll() of none", new SumBlocks().giveAll(), 0);
        Checks.due("giveAll() of one", Twins.made(Twins::fullMemory).giveAll(), 1);
        Checks.due("giveAll() of 24", Twins.made(Twins::allUses).giveAll(), 24);
        SumBlocks holes = Twins.made(Twins::allUses);
        holes.give(0);
        holes.give(12);
        holes.give(23);
        Checks.due("giveAll() of 21, with holes", holes.giveAll(), 21);
        Checks.due("giveAll() again", holes.giveAll(), 0);
    }

    /** Blocks: 0/1/5/0 2/0/0/- 3/1/0/- 5/2/0/- 8/3/0/1 13/4/0/-. */
    private static void growing(SumBlocks x) {
        x.begin(6);
        x.set(1, 1);
        x.want(2);
        x.want(4);
    }

    private static void grow() {
        Checks.says(6, "Lets a use grow.");
        SumBlocks x = Twins.made(EdgesOfMemoryTest::growing);
        x.grow(0, 4);
        Checks.due("blocks", Checks.blocks(x), "0/3/3/0 5/2/0/- 8/3/0/1 13/4/0/-");
        Checks.due("use(0, 1)", x.use(0, 1), 4);
        Checks.due("count(9)", x.count(9), 2);
        Checks.due("count(10), as it is no wish", x.count(10), 2);
        Checks.says(6, "Undoable.");
        Twins.savesOne("grow(0, 8)", EdgesOfMemoryTest::growing, y -> y.grow(0, 8));
        Twins.savesOne("grow(1, 4), as it is", EdgesOfMemoryTest::growing, y -> y.grow(1, 4));
        Twins.savesOne("grow(1, 5), in its block", EdgesOfMemoryTest::growing, y -> y.grow(1, 5));
        Checks.says(6, "`use`: its number");
        Checks.due("grow(0, 2)", Twins.made(EdgesOfMemoryTest::growing).grow(0, 2), 1);
        Checks.due("grow(23, 1), the last number", Twins.made(Twins::allUses).grow(23, 1),
                Twins.made(Twins::allUses).use(23, 3));
        Checks.says(6, "`cells`: 1 to 999, at least as many as it wished for");
        Checks.due("grow(0, 2), as many", Twins.made(EdgesOfMemoryTest::growing).grow(0, 2), 1);
        Checks.due("grow(0, 1), fewer", outcomeOfGrow(0, 1), "IllegalArgumentException");
        Checks.due("grow(1, 4), as many", outcomeOfGrow(1, 4), "3");
        Checks.due("grow(1, 3), fewer", outcomeOfGrow(1, 3), "IllegalArgumentException");
        Checks.due("grow(1, 5), all of its block", outcomeOfGrow(1, 5), "3");
        Checks.due("grow(0, 0)", outcomeOfGrow(0, 0), "IllegalArgumentException");
        Checks.due("grow(0, 999), allowed, but it cannot", outcomeOfGrow(0, 999), "IllegalStateException");
        Checks.due("grow(0, 1000)", outcomeOfGrow(0, 1000), "IllegalArgumentException");
        SumBlocks one = begun(3);
        one.want(1);
        Checks.due("grow(0, 1), the least", one.grow(0, 1), 1);
        SumBlocks less = Twins.made(EdgesOfMemoryTest::growing);
        less.shrink(1, 2);
        Checks.due("grow(1, 2), as many as it wishes for now", less.grow(1, 2), 1);
        less.grow(1, 5);
        Checks.due("grow(1, 4), fewer than it wishes for now", Checks.outcome(() -> less.grow(1, 4)),
                "IllegalArgumentException");
    }

    private static String outcomeOfGrow(int use, int cells) {
        return Checks.outcome(() -> Twins.made(EdgesOfMemoryTest::growing).grow(use, cells));
    }

    private static void growIsRefused() {
        Checks.says(6, "Returns the order of its block then.");
        Checks.due("grow(0, 2), not joined", Twins.made(EdgesOfMemoryTest::growing).grow(0, 2), 1);
        Checks.due("grow(0, 3), joined once", Twins.made(EdgesOfMemoryTest::growing).grow(0, 3), 2);
        Checks.due("grow(0, 8), joined three times", Twins.made(EdgesOfMemoryTest::growing).grow(0, 8), 4);
        Checks.says(6, "Throws `IllegalArgumentException` if there is no such use, cells is out of range, or fewer"
                + " than it wished for");
        for (int use : Twins.outside(0, 23)) {
            Twins.refusedInEachState("grow(" + use + ", 5)", ARGUMENT, x -> x.grow(use, 5));
        }
        for (int cells : Twins.outside(1, 999)) {
            Twins.refusedInEachState("grow(0, " + cells + ")", ARGUMENT, x -> x.grow(0, cells));
        }
        for (int cells = 0; cells < 2; cells++) {
            int fewer = cells;
            Twins.refused("grow(0, " + cells + ")", ARGUMENT, EdgesOfMemoryTest::growing,
                    x -> x.grow(0, fewer));
        }
        Twins.refused("grow(1, 3)", ARGUMENT, EdgesOfMemoryTest::growing, x -> x.grow(1, 3));
        Twins.refused("grow(2, 999), the next number", ARGUMENT, EdgesOfMemoryTest::growing,
                x -> x.grow(2, 999));
        Twins.refused("grow(0, 9), given back", ARGUMENT, x -> {
            growing(x);
            x.give(0);
        }, x -> x.grow(0, 9));
        Checks.says(6, "Throws `IllegalStateException` if it cannot grow");
        Twins.refused("grow(0, 9)", STATE, EdgesOfMemoryTest::growing, x -> x.grow(0, 9));
        Twins.refused("grow(0, 999)", STATE, EdgesOfMemoryTest::growing, x -> x.grow(0, 999));
        Twins.refused("grow(1, 6), the partner is ahead", STATE, EdgesOfMemoryTest::growing,
                x -> x.grow(1, 6));
        Twins.refused("grow(0, 6) of all cells", STATE, Twins::fullMemory, x -> x.grow(0, 6));
    }

    private static void shrink() {
        Checks.says(7, "Makes a use smaller.");
        SumBlocks x = begun(5);
        x.want(13);
        x.shrink(0, 3);
        Checks.due("blocks", Checks.blocks(x), "0/2/3/0 3/1/0/- 5/2/0/- 8/3/0/-");
        Checks.due("use(0, 1)", x.use(0, 1), 3);
        Checks.due("count(8)", x.count(8), 3);
        Checks.says(7, "Undoable.");
        Twins.savesOne("shrink(2, 1)", Twins::someUses, y -> y.shrink(2, 1));
        Twins.savesOne("shrink(2, 6), as it is", Twins::someUses, y -> y.shrink(2, 6));
        Twins.savesOne("shrink(0, 5), as it is", Twins::fullMemory, y -> y.shrink(0, 5));
        Checks.says(7, "`use`: its number");
        Checks.due("shrink(0, 1)", Twins.made(Twins::allUses).shrink(0, 1),
                Twins.made(Twins::allUses).use(0, 3));
        Checks.due("shrink(23, 1), the last number", Twins.made(Twins::allUses).shrink(23, 1),
                Twins.made(Twins::allUses).use(23, 3));
        Checks.says(7, "`cells`: at least 1, at most as many as it wished for");
        Checks.due("shrink(2, 1)", Twins.made(Twins::someUses).shrink(2, 1), 1);
        Checks.due("shrink(2, 6), as many", Twins.made(Twins::someUses).shrink(2, 6), 4);
        Twins.refused("shrink(2, 0)", ARGUMENT, Twins::someUses, y -> y.shrink(2, 0));
        Twins.refused("shrink(2, 7), in its block, but more", ARGUMENT, Twins::someUses, y -> y.shrink(2, 7));
        Checks.says(7, "Returns the order of its block then.");
        Checks.due("shrink(2, 6), as it is", Twins.made(Twins::someUses).shrink(2, 6), 4);
        Checks.due("shrink(2, 5), cut once", Twins.made(Twins::someUses).shrink(2, 5), 3);
        Checks.due("shrink(2, 4), cut once", Twins.made(Twins::someUses).shrink(2, 4), 3);
        Checks.due("shrink(2, 3), cut twice", Twins.made(Twins::someUses).shrink(2, 3), 2);
        Checks.due("shrink(1, 1) of the order 0", Twins.made(Twins::someUses).shrink(1, 1), 0);
    }

    private static void shrinkIsRefused() {
        Checks.says(7, "Throws `IllegalArgumentException` if there is no such use, or cells is out of range");
        for (int use : Twins.outside(0, 23)) {
            Twins.refusedInEachState("shrink(" + use + ", 1)", ARGUMENT, x -> x.shrink(use, 1));
        }
        for (int cells : Twins.outside(1, 999)) {
            Twins.refusedInEachState("shrink(0, " + cells + ")", ARGUMENT, x -> x.shrink(0, cells));
        }
        Twins.refused("shrink(0, 2), more than it wished for", ARGUMENT, Twins::someUses, x -> x.shrink(0, 2));
        Twins.refused("shrink(0, 999)", ARGUMENT, Twins::fullMemory, x -> x.shrink(0, 999));
        Twins.refused("shrink(3, 1), the next number", ARGUMENT, Twins::someUses, x -> x.shrink(3, 1));
        Twins.refused("shrink(2, 1), given back", ARGUMENT, x -> {
            Twins.someUses(x);
            x.give(2);
        }, x -> x.shrink(2, 1));
        Twins.refused("shrink(2, 5), more than it wishes for now", ARGUMENT, x -> {
            Twins.someUses(x);
            x.shrink(2, 4);
        }, x -> x.shrink(2, 5));
    }

    private static void set() {
        Checks.says(8, "Changes a setting.");
        SumBlocks x = new SumBlocks();
        x.set(0, 1);
        Checks.due("setting(0)", x.setting(0), 1);
        Checks.due("setting(1)", x.setting(1), 0);
        x.set(1, 1);
        x.set(0, 0);
        Checks.due("setting(0)", x.setting(0), 0);
        Checks.due("setting(1)", x.setting(1), 1);
        Checks.says(8, "(Blocks stay.)");
        SumBlocks stays = Twins.made(Twins::someUses);
        String blocks = Checks.blocks(stays);
        stays.set(1, 1);
        Checks.due("blocks", Checks.blocks(stays), blocks);
        stays.set(0, 1);
        Checks.due("blocks", Checks.blocks(stays), blocks);
        Checks.says(8, "Undoable.");
        for (Twins.Making state : Twins.STATES) {
            Twins.savesOne("set(0, 1)", state, y -> y.set(0, 1));
            Twins.savesOne("set(1, 0)", state, y -> y.set(1, 0));
        }
        Checks.says(8, "`setting`: 0 or 1");
        Checks.due("set(0, 0)", x.set(0, 0), 0);
        Checks.due("set(1, 0)", x.set(1, 0), 1);
        Checks.says(8, "`value`: 0 or 1");
        Checks.due("set(0, 1)", x.set(0, 1), 0);
        Checks.due("set(0, 0)", x.set(0, 0), 1);
        Checks.says(8, "Returns the previous value.");
        Checks.due("set(0, 1)", x.set(0, 1), 0);
        Checks.due("set(0, 1), the same again", x.set(0, 1), 1);
        Checks.due("set(0, 0)", x.set(0, 0), 1);
        Checks.due("set(0, 0), the same again", x.set(0, 0), 0);
        Checks.says(8, "Throws `IndexOutOfBoundsException` if there is no such setting");
        for (int setting : Twins.outside(0, 1)) {
            Twins.refusedInEachState("set(" + setting + ", 0)", INDEX, y -> y.set(setting, 0));
            Twins.refusedInEachState("set(" + setting + ", -1)", INDEX, y -> y.set(setting, -1));
        }
        Checks.says(8, "Throws `IllegalArgumentException` if value is out of range");
        for (int value : Twins.outside(0, 1)) {
            Twins.refusedInEachState("set(0, " + value + ")", ARGUMENT, y -> y.set(0, value));
            Twins.refusedInEachState("set(1, " + value + ")", ARGUMENT, y -> y.set(1, value));
        }
    }

    public static void main(String[] args) {
        newObject();
        begin();
        want();
        wantIsRefused();
        give();
        giveAll();
        grow();
        growIsRefused();
        shrink();
        shrinkIsRefused();
        set();
        Checks.end();
    }
}
