/** The edges that "What it is" and the terms "Sizes, blocks" name. */
public final class EdgesOfBlocksTest {
    private static final Class<?> ARGUMENT = IllegalArgumentException.class;
    private static final Class<?> INDEX = IndexOutOfBoundsException.class;
    private static final int[] SIZES = {1, 2, 3, 5, 8, 13, 21, 34, 55, 89, 144, 233, 377, 610, 987};

    private static SumBlocks begun(int order) {
        SumBlocks x = new SumBlocks();
        x.begin(order);
        return x;
    }

    /** Each call the dearest of its kind, and the last one, too, answers as the document says. */
    private static void fiveHundredTwelveCalls() {
        Checks.says(0, "An object is used for at most 512 calls after it has been made; what later calls"
                + " answer is free.");
        SumBlocks x = begun(14);
        x.set(1, 1);
        for (int pair = 0; pair < 254; pair++) {
            Checks.due("want(1)", x.want(1), 0);
            Checks.due("give(0)", x.give(0), 13);
        }
        Checks.due("count(8), the 511th call", x.count(8), 254 * 13);
        Checks.due("count(9), the 512th call", x.count(9), 254 * 13);
        SumBlocks same = begun(9);
        for (int call = 2; call < 512; call++) {
            same.set(0, 1);
        }
        Checks.due("undo(), the 512th call", same.undo(), 5);
        SumBlocks full = new SumBlocks();
        for (int call = 1; call <= 512; call++) {
            Checks.due("append('7'), the call " + call, Checks.outcome(() -> full.append('7')),
                    call <= 60 ? Integer.toString(call) : "IllegalStateException");
        }
    }

    private static void numbers() {
        Checks.says(0, "All numbers are integers, but for a share.");
        SumBlocks x = new SumBlocks();
        x.want(2);
        x.want(4);
        Checks.dueShare("wasteShare(), no integer", x.wasteShare(), 1.0 / 7.0);
        Checks.due("count(7)", x.count(7), 1);
    }

    private static void nothingToReturn() {
        Checks.says(0, "The constants: `NONE = -1`: There is nothing to return.");
        Checks.due("NONE", SumBlocks.NONE, -1);
        Checks.due("blocker()", new SumBlocks().blocker(), SumBlocks.NONE);
    }

    private static void sizes() {
        Checks.says(0, "The sizes are 1 for the order 0, 2 for the order 1, and for each next order the sum"
                + " of those of the two orders before it (3, 5, 8, 13 and so on).");
        SumBlocks x = new SumBlocks();
        Checks.due("size(0)", x.size(0), 1);
        Checks.due("size(1)", x.size(1), 2);
        for (int order = 2; order <= 14; order++) {
            Checks.due("size(" + order + ")", x.size(order), x.size(order - 1) + x.size(order - 2));
        }
        Checks.due("size(14)", x.size(14), 987);
    }

    private static void cells() {
        Checks.says(0, "The memory is one block of the highest order t, 3 to 14, at first 9; it has as many"
                + " cells as its size, numbered from 0.");
        cellsOf(new SumBlocks(), 9);
        for (int order = 3; order <= 14; order++) {
            cellsOf(begun(order), order);
        }
        for (int order : Twins.outside(3, 14)) {
            Twins.refused("begin(" + order + ")", ARGUMENT, x -> x.begin(3), x -> x.begin(order));
            Twins.refused("begin(" + order + ")", ARGUMENT, x -> x.begin(14), x -> x.begin(order));
        }
    }

    private static void cellsOf(SumBlocks x, int order) {
        int cells = SIZES[order];
        Checks.due("count(1)", x.count(1), order);
        Checks.due("count(2) of the order " + order, x.count(2), 1);
        Checks.due("count(0) of the order " + order, x.count(0), cells);
        Checks.due("at(0) of the order " + order, x.at(0), 0);
        Checks.due("at of the last cell of the order " + order, x.at(cells - 1), 0);
        Checks.dueThrow(0, "at behind the last cell of the order " + order, x, INDEX, () -> x.at(cells));
        Checks.dueThrow(0, "at(-1)", x, INDEX, () -> x.at(-1));
    }

    private static void firstBlock() {
        Checks.says(0, "A block has an address (its lowest cell), an order, and a count; the first one has"
                + " the address 0, the order t, and the count 0.");
        for (int order = 3; order <= 14; order++) {
            Checks.due("blocks", Checks.blocks(begun(order)), "0/" + order + "/0/-");
        }
        SumBlocks x = begun(4);
        x.want(3);
        Checks.due("block(1, 0), its lowest cell", x.block(1, 0), 5);
        Checks.due("at(4)", x.at(4), 0);
        Checks.due("at(5)", x.at(5), 1);
    }

    private static void blocksCoverAll() {
        Checks.says(0, "The blocks of the memory, by ascending addresses, follow one upon the other, and"
                + " cover all of it.");
        for (Twins.Making state : Twins.STATES) {
            SumBlocks x = Twins.made(state);
            int end = 0;
            int many = x.count(2);
            for (int place = 0; place < many; place++) {
                Checks.due("block(" + place + ", 0)", x.block(place, 0), end);
                Checks.due("at(" + end + "), its first cell", x.at(end), place);
                end += SIZES[x.block(place, 1)];
                Checks.due("at(" + (end - 1) + "), its last cell", x.at(end - 1), place);
            }
            Checks.due("the end of the last block", end, x.count(0));
            int beyond = end;
            Checks.dueThrow(0, "at(" + end + ")", x, INDEX, () -> x.at(beyond));
        }
    }

    /** The greatest uses are cut until there are 24, and then each is made as small as it can be. */
    private static void mostBlocks() {
        Checks.says(0, "The blocks of the memory, by ascending addresses, follow one upon the other, and"
                + " cover all of it.");
        SumBlocks x = begun(14);
        TreeModel same = new TreeModel();
        same.begin(14);
        Checks.due("want(987)", x.want(987), same.want(987));
        int[] orders = new int[24];
        orders[0] = 14;
        for (int use = 1; use < 24; use++) {
            int greatest = 0;
            for (int other = 1; other < use; other++) {
                greatest = orders[other] > orders[greatest] ? other : greatest;
            }
            orders[use] = orders[greatest] - 2;
            orders[greatest] = orders[greatest] - 1;
            Checks.due("shrink", x.shrink(greatest, SIZES[orders[greatest]]),
                    same.shrink(greatest, SIZES[orders[greatest]]));
            Checks.due("want", x.want(SIZES[orders[use]]), same.want(SIZES[orders[use]]));
        }
        Checks.due("count(3), no block is free", x.count(3), 0);
        for (int use = 0; use < 24; use++) {
            Checks.due("shrink(" + use + ", 1)", x.shrink(use, 1), same.shrink(use, 1));
        }
        Checks.due("count(2), the most that there can be", x.count(2), 175);
        Checks.due("digest() with the most blocks", x.digest(), same.digest());
        Checks.due("at(986)", x.at(986), 174);
        Checks.due("block(174, 0)", x.block(174, 0), same.block(174, 0));
        Checks.dueThrow(0, "block(175, 0)", x, INDEX, () -> x.block(175, 0));
        Checks.due("giveAll()", x.giveAll(), same.giveAll());
        Checks.due("digest() behind giveAll()", x.digest(), same.digest());
        Checks.due("undo()", x.undo(), same.undo());
        Checks.due("digest() with the most blocks again", x.digest(), same.digest());
    }

    private static void cuts() {
        Checks.says(0, "To cut a block of the order k, 2 or more, makes a left one of the order k - 1, at its"
                + " address, with its count plus 1, and a right one of the order k - 2, behind that, with the"
                + " count 0.");
        for (int order = 3; order <= 14; order++) {
            SumBlocks x = begun(order);
            x.want(SIZES[order - 1]);
            int left = order - 1;
            Checks.due("blocks behind a cut of the order " + order, Checks.blocks(x),
                    "0/" + left + "/1/0 " + SIZES[left] + "/" + (order - 2) + "/0/-");
        }
        SumBlocks least = begun(3);
        least.want(2);
        Checks.due("blocks", Checks.blocks(least), "0/2/1/- 3/1/0/0");
        least.want(1);
        Checks.due("blocks behind a cut of the order 2", Checks.blocks(least), "0/1/2/- 2/0/0/1 3/1/0/0");
        SumBlocks right = begun(5);
        right.want(1);
        Checks.due("the count 1 of the left piece of a right one", Checks.blocks(right),
                "0/4/1/- 8/2/1/- 11/1/0/0");
        SumBlocks all = begun(14);
        all.set(1, 1);
        all.want(1);
        Checks.due("block(0, 2), the highest count", all.block(0, 2), 13);
        Checks.due("count(2)", all.count(2), 14);
        for (int place = 1; place < 14; place++) {
            Checks.due("block(" + place + ", 2)", all.block(place, 2), 0);
            Checks.due("block(" + place + ", 1)", all.block(place, 1), place - 1);
        }
    }

    private static void ordersThatAreNotCut() {
        Checks.says(0, "Blocks of the order 0 or 1 cannot be cut.");
        SumBlocks x = begun(3);
        x.set(1, 1);
        x.want(1);
        Checks.due("blocks, down to the order 1", Checks.blocks(x), "0/1/2/0 2/0/0/- 3/1/0/-");
        Checks.due("use(0, 2) of the order 1", x.use(0, 2), 1);
        Checks.due("count(8)", x.count(8), 2);
        Checks.due("ifWanted(1, 2) in the order 0", x.ifWanted(1, 2), 0);
        Checks.due("want(1) in the order 0", x.want(1), 1);
        Checks.due("use(1, 2) of the order 0", x.use(1, 2), 0);
        Checks.due("ifWanted(1, 2) in the order 1", x.ifWanted(1, 2), 0);
        Checks.due("ifWanted(1, 3) in the order 1", x.ifWanted(1, 3), 1);
        Checks.due("want(1) in the order 1", x.want(1), 2);
        Checks.due("blocks", Checks.blocks(x), "0/1/2/0 2/0/0/1 3/1/0/2");
        Checks.due("count(8)", x.count(8), 2);
        SumBlocks smaller = begun(3);
        smaller.want(2);
        Checks.due("shrink(0, 1) in the order 1", smaller.shrink(0, 1), 1);
        smaller.set(1, 1);
        Checks.due("shrink(0, 1) in the order 1", smaller.shrink(0, 1), 1);
        Checks.due("blocks", Checks.blocks(smaller), "0/2/1/- 3/1/0/0");
        Checks.due("count(8)", smaller.count(8), 1);
        smaller.set(1, 0);
        smaller.want(1);
        Checks.due("shrink(1, 1) in the order 0", smaller.shrink(1, 1), 0);
        Checks.due("blocks", Checks.blocks(smaller), "0/1/2/- 2/0/0/1 3/1/0/0");
    }

    private static void sideOfThePartner() {
        Checks.says(0, "The partner of a block is found by its count: of a block of the order t there is"
                + " none; of one with a count above 0 it would be the block of the order below its own by 1,"
                + " behind it; of one with the count 0 the block of the order above its own by 1, ahead of"
                + " it.");
        for (int order = 3; order <= 14; order++) {
            SumBlocks whole = begun(order);
            Checks.due("block(0, 4) of the order t, free", whole.block(0, 4), -1);
            Checks.due("byWay(0) of the order t, free", whole.byWay(0), -1);
            whole.want(SIZES[order]);
            Checks.due("block(0, 4) of the order t, used", whole.block(0, 4), -1);
            Checks.due("byWay(0) of the order t, used", whole.byWay(0), -1);
            Checks.due("give(0) of the order t", whole.give(0), 0);
        }
        SumBlocks x = begun(3);
        x.want(2);
        Checks.due("block(0, 4), behind it", x.block(0, 4), 1);
        Checks.due("block(1, 4), ahead of it", x.block(1, 4), 0);
        x.want(1);
        Checks.due("block(0, 4) with the count 2", x.block(0, 4), 1);
        Checks.due("block(1, 4) of the order 0", x.block(1, 4), 0);
    }

    private static void partnersThatAreThere() {
        Checks.says(0, "The partner is there if the block next to it, on that side, has that order, and (of a"
                + " block with the count 0) a count above 0, or (of one with a count above 0) the count 0.");
        SumBlocks x = begun(7);
        x.want(34);
        x.shrink(0, 21);
        x.want(13);
        x.shrink(1, 5);
        x.shrink(0, 13);
        x.want(8);
        x.shrink(2, 5);
        x.want(3);
        Checks.due("blocks", Checks.blocks(x),
                "0/5/2/0 13/3/1/2 18/2/0/3 21/3/2/1 26/2/0/- 29/3/0/-");
        partners(x, new int[] {-1, 2, 1, 4, 3, -1});
        x.want(1);
        Checks.due("blocks", Checks.blocks(x),
                "0/5/2/0 13/3/1/2 18/2/0/3 21/3/2/1 26/1/1/- 28/0/0/4 29/3/0/-");
        // Ahead of the place 3 is a block of the order below its own by 1: but it is not behind it.
        partners(x, new int[] {-1, 2, 1, -1, 5, 4, -1});
        SumBlocks left = begun(6);
        left.set(1, 1);
        left.want(2);
        Checks.due("blocks", Checks.blocks(left), "0/1/5/0 2/0/0/- 3/1/0/- 5/2/0/- 8/3/0/- 13/4/0/-");
        // Behind the places 1 to 4 is a block of the order above their own by 1: but not ahead of them.
        partners(left, new int[] {1, 0, -1, -1, -1, -1});
    }

    private static void partners(SumBlocks x, int[] due) {
        for (int place = 0; place < due.length; place++) {
            Checks.due("block(" + place + ", 4)", x.block(place, 4), due[place]);
            Checks.due("byWay(" + place + ")", x.byWay(place), due[place]);
        }
    }

    private static void joins() {
        Checks.says(0, "To join a block and its partner makes one block of the order above that of the left"
                + " one by 1, at the address of the left one, with the count of the left one less 1.");
        SumBlocks x = begun(5);
        x.want(1);
        x.want(6);
        x.want(1);
        Checks.due("blocks", Checks.blocks(x), "0/4/1/1 8/1/2/- 10/0/0/2 11/1/0/0");
        Checks.due("give(2)", x.give(2), 1);
        Checks.due("blocks, the count 2 less 1", Checks.blocks(x), "0/4/1/1 8/2/1/- 11/1/0/0");
        Checks.due("give(0)", x.give(0), 1);
        Checks.due("blocks, the count 1 less 1", Checks.blocks(x), "0/4/1/1 8/3/0/-");
        Checks.due("give(1)", x.give(1), 1);
        Checks.due("blocks, up to the order t", Checks.blocks(x), "0/5/0/-");
        SumBlocks all = begun(14);
        all.set(1, 1);
        all.want(2);
        for (int order = 2; order <= 14; order++) {
            Checks.due("grow to the order " + order, all.grow(0, SIZES[order]), order);
            Checks.due("block(0, 2) of the order " + order, all.block(0, 2), 14 - order);
            Checks.due("block(0, 0)", all.block(0, 0), 0);
        }
    }

    public static void main(String[] args) {
        fiveHundredTwelveCalls();
        numbers();
        nothingToReturn();
        sizes();
        cells();
        firstBlock();
        blocksCoverAll();
        mostBlocks();
        cuts();
        ordersThatAreNotCut();
        sideOfThePartner();
        partnersThatAreThere();
        joins();
        Checks.end();
    }
}
