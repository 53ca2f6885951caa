/** The edges that the promises 14 to 20 name, sentence by sentence. */
public final class EdgesOfViewsTest {
    private static final Class<?> ARGUMENT = IllegalArgumentException.class;
    private static final Class<?> INDEX = IndexOutOfBoundsException.class;
    private static final int[] SIZES = {1, 2, 3, 5, 8, 13, 21, 34, 55, 89, 144, 233, 377, 610, 987};

    private static SumBlocks some() {
        return Twins.made(Twins::someUses);
    }

    private static SumBlocks full() {
        return Twins.made(Twins::fullMemory);
    }

    private static void size() {
        Checks.says(14, "Returns the size of an order.");
        SumBlocks x = Twins.made(y -> y.begin(3));
        for (int order = 0; order <= 14; order++) {
            Checks.due("size(" + order + "), also above the highest order", x.size(order), SIZES[order]);
        }
        Checks.says(14, "`order`: 0 to 14");
        Checks.due("size(0)", some().size(0), 1);
        Checks.due("size(14)", some().size(14), 987);
        Checks.says(14, "Returns the size.");
        Checks.due("size(1)", some().size(1), 2);
        Checks.due("size(13)", some().size(13), 610);
        Twins.quietInEachState("size(14)", y -> y.size(14));
        Checks.says(14, "Throws `IllegalArgumentException` if order is out of range");
        for (int order : Twins.outside(0, 14)) {
            Twins.refusedInEachState("size(" + order + ")", ARGUMENT, y -> y.size(order));
        }
    }

    private static void block() {
        Checks.says(15, "Returns a property of a block.");
        blocks(some(), new int[][] {{0, 4, 1, 2, -1}, {8, 1, 2, -1, 2}, {10, 0, 0, 1, 1}, {11, 1, 0, 0, -1}});
        blocks(full(), new int[][] {{0, 3, 0, 0, -1}});
        blocks(new SumBlocks(), new int[][] {{0, 9, 0, -1, -1}});
        Checks.says(15, "`place`: its place among the blocks by ascending addresses, from 0");
        Checks.due("block(0, 0), the first place", some().block(0, 0), 0);
        Checks.due("block(3, 0), the last place", some().block(3, 0), 11);
        Checks.due("block(0, 0), the only place", full().block(0, 0), 0);
        Checks.says(15, "`what`: 0: address; 1: order; 2: count; 3: the use of it, NONE if it is free; 4: the place"
                + " of its partner, NONE if it has none that is there");
        Checks.due("block(2, 0)", some().block(2, 0), 10);
        Checks.due("block(2, 1)", some().block(2, 1), 0);
        Checks.due("block(2, 2)", some().block(2, 2), 0);
        Checks.due("block(2, 3), used", some().block(2, 3), 1);
        Checks.due("block(1, 3), free", some().block(1, 3), -1);
        Checks.due("block(3, 3), the use 0", some().block(3, 3), 0);
        Checks.due("block(2, 4), ahead", some().block(2, 4), 1);
        Checks.due("block(1, 4), behind", some().block(1, 4), 2);
        Checks.due("block(0, 4), cut", some().block(0, 4), -1);
        Checks.due("block(0, 4) of the order t", full().block(0, 4), -1);
        SumBlocks all = Twins.made(Twins::allUses);
        int uses = 0;
        for (int place = 0; place < all.count(2); place++) {
            uses += all.block(place, 3) + 1;
        }
        Checks.due("the sum of the uses 0 to 23, each one more", uses, 300);
        Checks.says(15, "Returns the property.");
        Checks.due("block(0, 2)", some().block(0, 2), 1);
        Twins.quietInEachState("block(0, 4)", y -> y.block(0, 4));
    }

    private static void blocks(SumBlocks x, int[][] due) {
        Checks.due("count(2)", x.count(2), due.length);
        for (int place = 0; place < due.length; place++) {
            for (int what = 0; what <= 4; what++) {
                Checks.due("block(" + place + ", " + what + ")", x.block(place, what), due[place][what]);
            }
        }
    }

    private static void blockIsRefused() {
        Checks.says(15, "Throws `IndexOutOfBoundsException` if there are not so many blocks");
        for (Twins.Making state : Twins.STATES) {
            int many = Twins.made(state).count(2);
            for (int place : Twins.outside(0, many - 1)) {
                Twins.refused("block(" + place + ", 0)", INDEX, state, x -> x.block(place, 0));
                Twins.refused("block(" + place + ", 5)", INDEX, state, x -> x.block(place, 5));
            }
        }
        Twins.Making joined = x -> {
            Twins.someUses(x);
            x.give(1);
        };
        Checks.due("block(2, 0)", Twins.made(joined).block(2, 0), 11);
        Twins.refused("block(3, 0), where a block was", INDEX, joined, x -> x.block(3, 0));
        Checks.says(15, "Throws `IllegalArgumentException` if what is not 0 to 4");
        for (int what : Twins.outside(0, 4)) {
            Twins.refusedInEachState("block(0, " + what + ")", ARGUMENT, x -> x.block(0, what));
        }
    }

    private static void use() {
        Checks.says(16, "Returns a property of a use.");
        uses(some(), new int[][] {{3, 1, 1, 1, 11}, {2, 1, 0, 0, 10}, {0, 6, 2, 4, 0}});
        uses(full(), new int[][] {{0, 5, 0, 3, 0}});
        uses(new SumBlocks(), new int[][] {});
        Checks.says(16, "`use`: its number");
        Checks.due("use(0, 1)", some().use(0, 1), 1);
        Checks.due("use(23, 1)", Twins.made(Twins::allUses).use(23, 1), 1);
        Checks.says(16, "`what`: 0: the place of its block; 1: the cells that it wished for; 2: waste; 3: order; 4:"
                + " address");
        int[] due = {0, 6, 2, 4, 0};
        for (int what = 0; what <= 4; what++) {
            Checks.due("use(2, " + what + ")", some().use(2, what), due[what]);
        }
        SumBlocks changed = some();
        changed.shrink(2, 5);
        Checks.due("use(2, 1), made smaller", changed.use(2, 1), 5);
        Checks.due("use(2, 2), made smaller", changed.use(2, 2), 0);
        changed.grow(2, 7);
        Checks.due("use(2, 1), grown", changed.use(2, 1), 7);
        Checks.due("use(2, 2), grown", changed.use(2, 2), 1);
        Checks.says(16, "Returns the property; NONE if there is no such use.");
        for (int what = 0; what <= 4; what++) {
            Checks.due("use(3, " + what + "), the next number", some().use(3, what), -1);
            Checks.due("use(23, " + what + ")", some().use(23, what), -1);
            Checks.due("use(0, " + what + ") without uses", new SumBlocks().use(0, what), -1);
            changed = some();
            changed.give(0);
            Checks.due("use(0, " + what + "), given back", changed.use(0, what), -1);
        }
        Twins.quietInEachState("use(0, 4)", y -> y.use(0, 4));
        Checks.says(16, "Throws `IndexOutOfBoundsException` if use is not 0 to 23");
        for (int number : Twins.outside(0, 23)) {
            Twins.refusedInEachState("use(" + number + ", 0)", INDEX, x -> x.use(number, 0));
            Twins.refusedInEachState("use(" + number + ", 5)", INDEX, x -> x.use(number, 5));
        }
        Checks.says(16, "Throws `IllegalArgumentException` if what is not 0 to 4");
        for (int what : Twins.outside(0, 4)) {
            Twins.refusedInEachState("use(0, " + what + ")", ARGUMENT, x -> x.use(0, what));
            Twins.refused("use(23, " + what + "), no such use", ARGUMENT, Twins::someUses,
                    x -> x.use(23, what));
        }
    }

    private static void uses(SumBlocks x, int[][] due) {
        for (int use = 0; use <= 23; use++) {
            for (int what = 0; what <= 4; what++) {
                Checks.due("use(" + use + ", " + what + ")", x.use(use, what),
                        use < due.length ? due[use][what] : -1);
            }
        }
    }

    private static void at() {
        Checks.says(17, "Tells to which block a cell belongs.");
        int[] due = {0, 0, 0, 0, 0, 0, 0, 0, 1, 1, 2, 3, 3};
        for (int cell = 0; cell < due.length; cell++) {
            Checks.due("at(" + cell + ")", some().at(cell), due[cell]);
        }
        Checks.says(17, "`cell`: its number");
        Checks.due("at(0)", new SumBlocks().at(0), 0);
        Checks.due("at(88)", new SumBlocks().at(88), 0);
        Checks.due("at(986)", Twins.made(x -> x.begin(14)).at(986), 0);
        Checks.says(17, "Returns the place of the block.");
        Checks.due("at(12), the last place", some().at(12), 3);
        Twins.quietInEachState("at(0)", y -> y.at(0));
        Checks.says(17, "Throws `IndexOutOfBoundsException` if there is no such cell");
        for (Twins.Making state : Twins.STATES) {
            int cells = Twins.made(state).count(0);
            for (int cell : Twins.outside(0, cells - 1)) {
                Twins.refused("at(" + cell + ")", INDEX, state, x -> x.at(cell));
            }
        }
        for (int order = 3; order <= 14; order++) {
            int highest = order;
            Twins.refused("at behind the last cell", INDEX, x -> x.begin(highest), x -> x.at(SIZES[highest]));
        }
    }

    private static void many() {
        Checks.says(18, "Returns how many blocks of an order there are.");
        Checks.due("many(1, true)", some().many(1, true), 1);
        Checks.due("many(1, false)", some().many(1, false), 1);
        Checks.due("many(2, true), none", some().many(2, true), 0);
        Checks.says(18, "`order`: 0 to 14");
        Checks.due("many(0, false)", some().many(0, false), 1);
        Checks.due("many(0, true)", some().many(0, true), 0);
        Checks.due("many(14, true), above the highest order", some().many(14, true), 0);
        Checks.due("many(14, true)", Twins.made(x -> x.begin(14)).many(14, true), 1);
        Checks.due("many(14, false)", Twins.made(x -> x.begin(14)).many(14, false), 0);
        Checks.says(18, "`isFree`: whether free ones, otherwise used ones");
        Checks.due("many(3, true), all used", full().many(3, true), 0);
        Checks.due("many(3, false), all used", full().many(3, false), 1);
        Checks.due("many(9, true), all free", new SumBlocks().many(9, true), 1);
        Checks.due("many(9, false), all free", new SumBlocks().many(9, false), 0);
        Checks.says(18, "Returns how many.");
        SumBlocks x = Twins.made(y -> {
            y.begin(4);
            y.want(1);
            y.want(1);
            y.want(1);
            y.want(1);
        });
        Checks.due("blocks", Checks.blocks(x), "0/1/3/- 2/0/0/3 3/1/0/2 5/1/1/1 7/0/0/0");
        Checks.due("many(0, false)", x.many(0, false), 2);
        Checks.due("many(1, false)", x.many(1, false), 2);
        Checks.due("many(1, true)", x.many(1, true), 1);
        Twins.quietInEachState("many(1, true)", y -> y.many(1, true));
        Checks.says(18, "Throws `IllegalArgumentException` if order is out of range");
        for (int order : Twins.outside(0, 14)) {
            Twins.refusedInEachState("many(" + order + ", true)", ARGUMENT, y -> y.many(order, true));
            Twins.refusedInEachState("many(" + order + ", false)", ARGUMENT, y -> y.many(order, false));
        }
    }

    private static void count() {
        Checks.says(19, "Returns a number.");
        counts(new SumBlocks(), new int[] {89, 9, 1, 1, 0, 89, 0, 0, 0, 0, 0, 9, 0});
        counts(full(), new int[] {5, 3, 1, 0, 1, 0, 5, 0, 0, 0, 1, -1, 2});
        counts(some(), new int[] {13, 5, 4, 1, 3, 2, 8, 3, 3, 0, 3, 1, 4});
        Checks.says(19, "`what`: 0: cells of the memory; 1: its highest order; 2: blocks; 3: free ones; 4: uses; 5:"
                + " free cells; 6: cells that were wished for by all uses; 7: waste of all uses; 8: cuts so far,"
                + " by all methods; 9: joins so far, by all methods; 10: wishes so far that got a block, by"
                + " want() and run(); 11: the greatest order of a free block, NONE if none is free; 12: saved"
                + " states");
        SumBlocks x = some();
        x.give(1);
        counts(x, new int[] {13, 5, 3, 1, 2, 3, 7, 3, 3, 1, 3, 2, 5});
        x.shrink(2, 1);
        counts(x, new int[] {13, 5, 6, 4, 2, 9, 2, 2, 6, 1, 3, 2, 6});
        x.grow(2, 5);
        counts(x, new int[] {13, 5, 4, 2, 2, 6, 6, 1, 6, 3, 3, 2, 6});
        x.clearBuffer();
        Checks.type(x, "w1;w3;g7");
        x.run();
        counts(x, new int[] {13, 5, 5, 1, 4, 2, 10, 1, 7, 3, 5, 1, 6});
        x.giveAll();
        counts(x, new int[] {13, 5, 1, 1, 0, 13, 0, 0, 7, 7, 5, 5, 6});
        x.begin(14);
        counts(x, new int[] {987, 14, 1, 1, 0, 987, 0, 0, 7, 7, 5, 14, 6});
        x.undo();
        x.undo();
        counts(x, new int[] {13, 5, 5, 1, 4, 2, 10, 1, 7, 3, 5, 1, 4});
        Checks.says(19, "Returns the number.");
        Checks.due("count(4), the most", Twins.made(Twins::allUses).count(4), 24);
        Checks.due("count(12), the most", Twins.made(Twins::allUses).count(12), 6);
        Checks.due("count(11), none is free", full().count(11), -1);
        Checks.due("count(11), the least", countOfTheLeastFreeBlock(), 0);
        Twins.quietInEachState("count(12)", y -> y.count(12));
        Checks.says(19, "Throws `IllegalArgumentException` if what is not 0 to 12");
        for (int what : Twins.outside(0, 12)) {
            Twins.refusedInEachState("count(" + what + ")", ARGUMENT, y -> y.count(what));
        }
    }

    private static int countOfTheLeastFreeBlock() {
        SumBlocks x = new SumBlocks();
        x.begin(3);
        x.want(2);
        x.set(1, 1);
        x.want(1);
        return x.count(11);
    }

    private static void counts(SumBlocks x, int[] due) {
        for (int what = 0; what < due.length; what++) {
            Checks.due("count(" + what + ")", x.count(what), due[what]);
        }
    }

    private static void setting() {
        Checks.says(20, "Returns a setting.");
        SumBlocks x = new SumBlocks();
        x.set(1, 1);
        Checks.due("setting(0)", x.setting(0), 0);
        Checks.due("setting(1)", x.setting(1), 1);
        Checks.says(20, "`setting`: 0 or 1");
        x.set(0, 1);
        x.set(1, 0);
        Checks.due("setting(0)", x.setting(0), 1);
        Checks.due("setting(1)", x.setting(1), 0);
        Checks.says(20, "Returns its value.");
        Checks.due("setting(0) at first", new SumBlocks().setting(0), 0);
        Checks.due("setting(1) at first", new SumBlocks().setting(1), 0);
        Twins.quietInEachState("setting(1)", y -> y.setting(1));
        Checks.says(20, "Throws `IndexOutOfBoundsException` if there is no such setting");
        for (int setting : Twins.outside(0, 1)) {
            Twins.refusedInEachState("setting(" + setting + ")", INDEX, y -> y.setting(setting));
        }
    }

    public static void main(String[] args) {
        size();
        block();
        blockIsRefused();
        use();
        at();
        many();
        count();
        setting();
        Checks.end();
    }
}
