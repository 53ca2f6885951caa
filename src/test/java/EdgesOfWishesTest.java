/** The edges that the terms "Wishes", "Growing, making smaller", and "Settings" name. */
public final class EdgesOfWishesTest {
    private static final Class<?> ARGUMENT = IllegalArgumentException.class;
    private static final Class<?> STATE = IllegalStateException.class;
    private static final Class<?> INDEX = IndexOutOfBoundsException.class;
    private static final int[] SIZES = {1, 2, 3, 5, 8, 13, 21, 34, 55, 89, 144, 233, 377, 610, 987};

    private static SumBlocks begun(int order) {
        SumBlocks x = new SumBlocks();
        x.begin(order);
        return x;
    }

    private static SumBlocks begunLeft(int order) {
        SumBlocks x = begun(order);
        x.set(1, 1);
        return x;
    }

    private static void freeOrUsed() {
        Checks.says(0, "A block is free or used.");
        for (Twins.Making state : Twins.STATES) {
            SumBlocks x = Twins.made(state);
            int free = 0;
            int used = 0;
            for (int order = 0; order <= 14; order++) {
                free += x.many(order, true);
                used += x.many(order, false);
            }
            Checks.due("free ones", free, x.count(3));
            Checks.due("used ones", used, x.count(4));
            Checks.due("free and used ones", free + used, x.count(2));
        }
    }

    private static void manyUses() {
        Checks.says(0, "There are at most 24 uses at a time; a use has a number, the lowest one from 0 on that"
                + " no other use has.");
        SumBlocks x = begun(14);
        for (int use = 0; use < 24; use++) {
            Checks.due("count(4)", x.count(4), use);
            Checks.due("want(1), the wish " + use, x.want(1), use);
        }
        Checks.due("count(4)", x.count(4), 24);
        Twins.refused("want(1), the 25th use", STATE, Twins::allUses, y -> y.want(1));
        Checks.due("free cells there are", x.ifWanted(377, 1), 12);
        x.give(23);
        Checks.due("want(2), the last number is free", x.want(2), 23);
        x.give(0);
        Checks.due("want(2), the first number is free", x.want(2), 0);
        x.give(11);
        x.give(3);
        x.give(20);
        Checks.due("want(2), three numbers are free", x.want(2), 3);
        Checks.due("want(2), two numbers are free", x.want(2), 11);
        Checks.due("want(2), one number is free", x.want(2), 20);
        Checks.due("want(2), none is free", Checks.outcome(() -> x.want(2)), "IllegalStateException");
        Checks.due("giveAll()", x.giveAll(), 24);
        Checks.due("want(2), all are free", x.want(2), 0);
    }

    private static void leastOrder() {
        Checks.says(0, "A wish is for some cells, at least 1; it is for the least order whose size is at least"
                + " that.");
        for (int order = 0; order <= 14; order++) {
            SumBlocks x = begun(14);
            x.want(SIZES[order]);
            Checks.due("use(0, 3) of " + SIZES[order] + " cells", x.use(0, 3), order);
            Checks.due("use(0, 2) of " + SIZES[order] + " cells", x.use(0, 2), 0);
        }
        for (int order = 0; order < 14; order++) {
            SumBlocks x = begun(14);
            int cells = SIZES[order] + 1;
            x.want(cells);
            Checks.due("use(0, 3) of " + cells + " cells", x.use(0, 3), order + 1);
            Checks.due("use(0, 2) of " + cells + " cells", x.use(0, 2), SIZES[order + 1] - cells);
        }
        for (int cells = 988; cells <= 999; cells++) {
            int tooMany = cells;
            Twins.refused("want(" + cells + "), no order has so many", STATE, x -> x.begin(14),
                    x -> x.want(tooMany));
            Checks.due("ifWanted(" + cells + ", 0)", begun(14).ifWanted(cells, 0), -1);
        }
        Twins.refused("want(0)", ARGUMENT, x -> x.begin(14), x -> x.want(0));
    }

    private static void whichFreeBlock() {
        Checks.says(0, "It gets a free block like this: of the free blocks with this order or a greater one, one"
                + " is looked for by setting 0: 0: the least order first, of several the lowest address; 1:"
                + " the lowest address first.");
        SumBlocks x = begun(6);
        x.want(3);
        Checks.due("blocks", Checks.blocks(x), "0/5/1/- 13/3/1/- 18/2/0/0");
        addresses(x, new int[] {4, 13, 5, 13, 6, 0, 8, 0, 9, 0, 13, 0, 14, -1});
        x.set(0, 1);
        addresses(x, new int[] {4, 8, 5, 8, 6, 0, 9, 0, 13, 0, 14, -1});
        SumBlocks row = begunLeft(5);
        row.want(2);
        Checks.due("blocks", Checks.blocks(row), "0/1/4/0 2/0/0/- 3/1/0/- 5/2/0/- 8/3/0/-");
        int[] ascending = {1, 2, 2, 3, 3, 5, 4, 8, 5, 8, 6, -1};
        addresses(row, ascending);
        row.set(0, 1);
        addresses(row, ascending);
    }

    private static void whichOfSeveral() {
        Checks.says(0, "It gets a free block like this: of the free blocks with this order or a greater one, one"
                + " is looked for by setting 0: 0: the least order first, of several the lowest address; 1:"
                + " the lowest address first.");
        SumBlocks x = begunLeft(4);
        x.want(1);
        x.want(3);
        x.shrink(1, 2);
        Checks.due("blocks", Checks.blocks(x), "0/1/3/0 2/0/0/- 3/1/0/- 5/1/1/1 7/0/0/-");
        Checks.due("ifWanted(1, 0), the first of two", x.ifWanted(1, 0), 2);
        x.want(1);
        Checks.due("use(2, 4)", x.use(2, 4), 2);
        Checks.due("ifWanted(1, 0), the least order is the last block", x.ifWanted(1, 0), 7);
        x.set(0, 1);
        Checks.due("ifWanted(1, 0), the lowest address", x.ifWanted(1, 0), 3);
        Checks.due("want(1)", x.want(1), 3);
        Checks.due("use(3, 4)", x.use(3, 4), 3);
        Checks.due("want(1), the last free block", x.want(1), 4);
        Checks.due("use(4, 4)", x.use(4, 4), 7);
        Checks.due("count(3)", x.count(3), 0);
        Checks.due("want(1), no block is free", Checks.outcome(() -> x.want(1)), "IllegalStateException");
    }

    // Cells and the due address, in turn.
    private static void addresses(SumBlocks x, int[] due) {
        for (int index = 0; index < due.length; index += 2) {
            Checks.due("ifWanted(" + due[index] + ", 0)", x.ifWanted(due[index], 0), due[index + 1]);
        }
    }

    private static void wanted(String due, SumBlocks x, int cells) {
        x.want(cells);
        Checks.due("blocks behind want(" + cells + ")", Checks.blocks(x), due);
    }

    private static void howItIsCut() {
        Checks.says(0, "As long as it can be cut, and the order of the left piece would be at least that least"
                + " order, it is cut, and this goes on with the right piece, if setting 1 is 0 and the order"
                + " of that is at least the least order, too; otherwise with the left one.");
        wanted("0/3/0/0", begun(3), 4);
        wanted("0/2/1/0 3/1/0/-", begun(3), 3);
        wanted("0/2/1/- 3/1/0/0", begun(3), 2);
        wanted("0/2/1/- 3/1/0/0", begun(3), 1);
        wanted("0/3/1/0 5/2/0/-", begun(4), 5);
        wanted("0/3/1/0 5/2/0/-", begun(4), 4);
        wanted("0/3/1/- 5/2/0/0", begun(4), 3);
        wanted("0/3/1/- 5/1/1/0 7/0/0/-", begun(4), 2);
        wanted("0/3/1/- 5/1/1/- 7/0/0/0", begun(4), 1);
        wanted("0/3/0/0", begunLeft(3), 4);
        wanted("0/2/1/0 3/1/0/-", begunLeft(3), 3);
        wanted("0/1/2/0 2/0/0/- 3/1/0/-", begunLeft(3), 2);
        wanted("0/1/2/0 2/0/0/- 3/1/0/-", begunLeft(3), 1);
        wanted("0/2/2/0 3/1/0/- 5/2/0/-", begunLeft(4), 3);
        for (int order = 3; order <= 14; order++) {
            SumBlocks right = begun(order);
            right.want(1);
            Checks.due("count(8) with the right pieces, " + order, right.count(8), order / 2);
            Checks.due("use(0, 3) with the right pieces, " + order, right.use(0, 3), order % 2);
            SumBlocks left = begunLeft(order);
            left.want(1);
            Checks.due("count(8) with the left pieces, " + order, left.count(8), order - 1);
            Checks.due("use(0, 3) with the left pieces, " + order, left.use(0, 3), 1);
        }
    }

    private static void whatIsLeft() {
        Checks.says(0, "What is left of it then is used.");
        SumBlocks x = begun(3);
        x.want(5);
        Checks.due("blocks, not cut at all", Checks.blocks(x), "0/3/0/0");
        Checks.due("block(0, 3)", x.block(0, 3), 0);
        Checks.due("count(3)", x.count(3), 0);
        Checks.due("count(5)", x.count(5), 0);
        Checks.due("count(11)", x.count(11), -1);
        Twins.refused("want(1) in a full memory", STATE, Twins::fullMemory, y -> y.want(1));
        SumBlocks small = begun(3);
        small.want(1);
        small.want(1);
        small.want(1);
        Checks.due("blocks", Checks.blocks(small), "0/1/2/2 2/0/0/1 3/1/0/0");
        Checks.due("want(1), where only waste is left", Checks.outcome(() -> small.want(1)),
                "IllegalStateException");
    }

    private static void waste() {
        Checks.says(0, "The waste of a use is the size of its block less the cells that were wished for.");
        SumBlocks x = begun(14);
        x.want(987);
        Checks.due("use(0, 2), none", x.use(0, 2), 0);
        x.shrink(0, 611);
        Checks.due("use(0, 2), the greatest one", x.use(0, 2), 376);
        Checks.due("count(7)", x.count(7), 376);
        x.shrink(0, 610);
        Checks.due("use(0, 2), none", x.use(0, 2), 0);
        x.grow(0, 610);
        Checks.due("use(0, 2), none", x.use(0, 2), 0);
        x.grow(0, 611);
        Checks.due("use(0, 2), the greatest one", x.use(0, 2), 376);
    }

    private static void givenBack() {
        Checks.says(0, "To give a use back makes its block free; then, as long as it has a partner that is there"
                + " and free, it is joined with it (and this goes on with the joined one).");
        SumBlocks x = begunLeft(4);
        x.want(5);
        x.want(3);
        Checks.due("give(0), the partner is used", x.give(0), 0);
        x.undo();
        x.shrink(1, 2);
        Checks.due("blocks", Checks.blocks(x), "0/3/1/0 5/1/1/1 7/0/0/-");
        Checks.due("give(0), the partner is cut", x.give(0), 0);
        Checks.due("blocks", Checks.blocks(x), "0/3/1/- 5/1/1/1 7/0/0/-");
        x.undo();
        Checks.due("give(1), one that is free, one that is used", x.give(1), 1);
        Checks.due("blocks", Checks.blocks(x), "0/3/1/0 5/2/0/-");
        Checks.due("give(0), to the end", x.give(0), 1);
        Checks.due("blocks", Checks.blocks(x), "0/4/0/-");
        for (int order = 3; order <= 14; order++) {
            SumBlocks left = begunLeft(order);
            left.want(1);
            Checks.due("give(0), from the left", left.give(0), order - 1);
            Checks.due("blocks", Checks.blocks(left), "0/" + order + "/0/-");
            SumBlocks right = begun(order);
            right.want(1);
            Checks.due("give(0), from the right", right.give(0), order / 2);
            Checks.due("blocks", Checks.blocks(right), "0/" + order + "/0/-");
        }
    }

    private static void madeSmaller() {
        Checks.says(0, "A use that is made smaller wishes for fewer cells: as long as its block can be cut, and"
                + " its left piece has a size of at least these, it is cut, and this goes on with the left"
                + " one; each right piece is free then (it cannot be joined, as its partner is used or cut).");
        for (int order = 3; order <= 14; order++) {
            SumBlocks x = begun(order);
            x.want(SIZES[order]);
            int joins = x.count(9);
            Checks.due("shrink by 1, where the left piece is too small", x.shrink(0, SIZES[order - 1] + 1),
                    order);
            Checks.due("count(2)", x.count(2), 1);
            Checks.due("shrink to the size of the left piece", x.shrink(0, SIZES[order - 1]), order - 1);
            Checks.due("count(2)", x.count(2), 2);
            Checks.due("block(1, 3)", x.block(1, 3), -1);
            Checks.due("shrink below the size of the left piece", x.shrink(0, SIZES[order - 2]), order - 2);
            Checks.due("shrink(0, 1)", x.shrink(0, 1), 1);
            Checks.due("count(2)", x.count(2), order);
            Checks.due("count(3)", x.count(3), order - 1);
            Checks.due("count(9)", x.count(9), joins);
        }
        SumBlocks right = begun(5);
        right.want(3);
        right.set(1, 0);
        Checks.due("blocks", Checks.blocks(right), "0/4/1/- 8/2/1/0 11/1/0/-");
        Checks.due("shrink(0, 1), with the left piece by setting 1, too", right.shrink(0, 1), 1);
        Checks.due("blocks", Checks.blocks(right), "0/4/1/- 8/1/2/0 10/0/0/- 11/1/0/-");
    }

    private static void grows() {
        Checks.says(0, "A use that grows wishes for more cells: as long as its block has a size below these, it is"
                + " joined with its partner, if that is there, free, and behind it; if that is not so, it"
                + " cannot grow, and nothing changes.");
        SumBlocks x = begunLeft(14);
        x.want(1);
        for (int order = 1; order < 14; order++) {
            int cells = SIZES[order];
            Checks.due("grow(0, " + cells + "), to all of its block", x.grow(0, cells), order);
            Checks.due("grow(0, " + (cells + 1) + ")", x.grow(0, cells + 1), order + 1);
        }
        Checks.due("grow(0, 987)", x.grow(0, 987), 14);
        Checks.due("count(9)", x.count(9), 13);
        SumBlocks low = begunLeft(14);
        low.want(1);
        Checks.due("grow(0, 987) at once", low.grow(0, 987), 14);
        Checks.due("count(9)", low.count(9), 13);
        Twins.refused("grow(0, 988), no partner of the order t", STATE, EdgesOfWishesTest::ofAllCells,
                y -> y.grow(0, 988));
        Twins.refused("grow(0, 999), no partner of the order t", STATE, EdgesOfWishesTest::ofAllCells,
                y -> y.grow(0, 999));
    }

    private static void ofAllCells(SumBlocks x) {
        x.begin(14);
        x.want(987);
    }

    private static void cannotGrow() {
        Checks.says(0, "A use that grows wishes for more cells: as long as its block has a size below these, it is"
                + " joined with its partner, if that is there, free, and behind it; if that is not so, it"
                + " cannot grow, and nothing changes.");
        Twins.Making used = x -> {
            x.begin(6);
            x.set(1, 1);
            x.want(2);
            x.want(5);
        };
        Checks.due("blocks", Checks.blocks(Twins.made(used)),
                "0/1/5/0 2/0/0/- 3/1/0/- 5/2/0/- 8/3/0/1 13/4/0/-");
        Twins.refused("grow(0, 9), three joins, then a used partner", STATE, used, x -> x.grow(0, 9));
        Checks.due("grow(0, 8)", Twins.made(used).grow(0, 8), 4);
        Twins.Making cut = x -> {
            used.make(x);
            x.shrink(1, 1);
        };
        Twins.refused("grow(0, 9), three joins, then a cut partner", STATE, cut, x -> x.grow(0, 9));
        Twins.refused("grow(1, 6), joins, then a partner ahead", STATE, cut, x -> x.grow(1, 6));
        Checks.due("grow(1, 5)", Twins.made(cut).grow(1, 5), 3);
        Twins.Making ahead = x -> {
            x.begin(4);
            x.want(3);
        };
        Checks.due("blocks", Checks.blocks(Twins.made(ahead)), "0/3/1/- 5/2/0/0");
        Twins.refused("grow(0, 4), the partner is free, but ahead", STATE, ahead, x -> x.grow(0, 4));
        Checks.due("grow(0, 3)", Twins.made(ahead).grow(0, 3), 2);
    }

    private static void settings() {
        Checks.says(0, "0: how blocks are looked for, 0 or 1, at first 0; 1: with which piece it goes on, 0 or 1,"
                + " at first 0.");
        SumBlocks x = new SumBlocks();
        for (int setting = 0; setting <= 1; setting++) {
            Checks.due("setting(" + setting + ") at first", x.setting(setting), 0);
            Checks.due("set(" + setting + ", 1)", x.set(setting, 1), 0);
            Checks.due("setting(" + setting + ")", x.setting(setting), 1);
            Checks.due("set(" + setting + ", 0)", x.set(setting, 0), 1);
            Checks.due("setting(" + setting + ")", x.setting(setting), 0);
        }
        for (int wrong : Twins.outside(0, 1)) {
            Twins.refusedInEachState("set(" + wrong + ", 0)", INDEX, y -> y.set(wrong, 0));
            Twins.refusedInEachState("set(0, " + wrong + ")", ARGUMENT, y -> y.set(0, wrong));
            Twins.refusedInEachState("set(1, " + wrong + ")", ARGUMENT, y -> y.set(1, wrong));
            Twins.refusedInEachState("setting(" + wrong + ")", INDEX, y -> y.setting(wrong));
        }
    }

    public static void main(String[] args) {
        freeOrUsed();
        manyUses();
        leastOrder();
        whichFreeBlock();
        whichOfSeveral();
        howItIsCut();
        whatIsLeft();
        waste();
        givenBack();
        madeSmaller();
        grows();
        cannotGrow();
        settings();
        Checks.end();
    }
}
