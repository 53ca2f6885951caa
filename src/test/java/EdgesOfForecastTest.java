import java.math.BigInteger;
import java.util.ArrayList;
import java.util.List;

/** The edges that the promises 21 to 27 name, sentence by sentence. */
public final class EdgesOfForecastTest {
    private static final Class<?> ARGUMENT = IllegalArgumentException.class;
    private static final Class<?> INDEX = IndexOutOfBoundsException.class;
    private static final int[] SIZES = {1, 2, 3, 5, 8, 13, 21, 34, 55, 89, 144, 233, 377, 610, 987};

    private static SumBlocks some() {
        return Twins.made(Twins::someUses);
    }

    private static SumBlocks full() {
        return Twins.made(Twins::fullMemory);
    }

    private static SumBlocks begun(int order) {
        return Twins.made(x -> x.begin(order));
    }

    /** Blocks: 0/1/5/0 2/0/0/- 3/1/0/- 5/2/0/- 8/3/0/1 13/4/0/-. */
    private static void leftPieces(SumBlocks x) {
        x.begin(6);
        x.set(1, 1);
        x.want(2);
        x.want(4);
    }

    private static void ifWanted() {
        Checks.says(21, "Tells what a wish would get.");
        for (Twins.Making state : Twins.STATES) {
            for (int size : SIZES) {
                sameAsWant(state, size);
                sameAsWant(state, size + 1);
            }
            sameAsWant(state, 999);
        }
        Twins.quietInEachState("ifWanted(1, 2)", x -> x.ifWanted(1, 2));
        Twins.quietInEachState("ifWanted(999, 0)", x -> x.ifWanted(999, 0));
        Checks.says(21, "`cells`: 1 to 999");
        Checks.due("ifWanted(1, 3)", begun(14).ifWanted(1, 3), 0);
        Checks.due("ifWanted(987, 3)", begun(14).ifWanted(987, 3), 0);
        Checks.due("ifWanted(988, 3), allowed", begun(14).ifWanted(988, 3), -1);
        Checks.due("ifWanted(999, 3), allowed", begun(14).ifWanted(999, 3), -1);
        Checks.says(21, "`what`: 0: the address; 1: the order of the block; 2: how many cuts there would be; 3:"
                + " the waste");
        wish(begun(6), 1, new int[] {20, 0, 3, 0});
        wish(begun(6), 14, new int[] {0, 6, 0, 7});
        wish(begun(6), 21, new int[] {0, 6, 0, 0});
        wish(begun(6), 13, new int[] {0, 5, 1, 0});
        wish(begun(6), 12, new int[] {0, 5, 1, 1});
        wish(begun(6), 8, new int[] {13, 4, 1, 0});
        wish(some(), 2, new int[] {8, 1, 0, 0});
        wish(some(), 1, new int[] {8, 1, 0, 1});
        SumBlocks left = begun(14);
        left.set(1, 1);
        wish(left, 1, new int[] {0, 1, 13, 1});
    }

    private static void sameAsWant(Twins.Making state, int cells) {
        SumBlocks x = Twins.made(state);
        if (x.count(4) == 24) {
            // So that there is a number for the use.
            x.give(23);
        }
        int cuts = x.count(8);
        int[] told = {x.ifWanted(cells, 0), x.ifWanted(cells, 1), x.ifWanted(cells, 2), x.ifWanted(cells, 3)};
        if (told[0] < 0) {
            Checks.due("want(" + cells + ")", Checks.outcome(() -> x.want(cells)), "IllegalStateException");
            Checks.due("ifWanted(" + cells + ", 1) without a block", told[1], -1);
            Checks.due("ifWanted(" + cells + ", 2) without a block", told[2], -1);
            Checks.due("ifWanted(" + cells + ", 3) without a block", told[3], -1);
            return;
        }
        int use = x.want(cells);
        Checks.due("ifWanted(" + cells + ", 0)", told[0], x.use(use, 4));
        Checks.due("ifWanted(" + cells + ", 1)", told[1], x.use(use, 3));
        Checks.due("ifWanted(" + cells + ", 2)", told[2], x.count(8) - cuts);
        Checks.due("ifWanted(" + cells + ", 3)", told[3], x.use(use, 2));
    }

    private static void wish(SumBlocks x, int cells, int[] due) {
        for (int what = 0; what < due.length; what++) {
            Checks.due("ifWanted(" + cells + ", " + what + ")", x.ifWanted(cells, what), due[what]);
        }
    }

    private static void ifWantedAtTheEdges() {
        Checks.says(21, "Returns the number; NONE if no free block does (whether there are 24 uses does not"
                + " matter).");
        for (int order = 3; order <= 14; order++) {
            wish(begun(order), SIZES[order], new int[] {0, order, 0, 0});
            wish(begun(order), SIZES[order] + 1, new int[] {-1, -1, -1, -1});
        }
        wish(full(), 1, new int[] {-1, -1, -1, -1});
        wish(full(), 999, new int[] {-1, -1, -1, -1});
        wish(some(), 3, new int[] {-1, -1, -1, -1});
        SumBlocks all = Twins.made(Twins::allUses);
        SumBlocks one = Twins.made(Twins::allUses);
        one.give(23);
        Checks.due("count(4)", all.count(4), 24);
        Checks.due("ifWanted(300, 1) with 24 uses", all.ifWanted(300, 1), 12);
        Checks.due("ifWanted(300, 0) with 24 uses", all.ifWanted(300, 0), one.ifWanted(300, 0));
        Checks.due("ifWanted(300, 2) with 24 uses", all.ifWanted(300, 2), one.ifWanted(300, 2));
        Checks.due("ifWanted(300, 3) with 24 uses", all.ifWanted(300, 3), 77);
        Checks.due("ifWanted(988, 0) with 24 uses", all.ifWanted(988, 0), -1);
        Checks.says(21, "Throws `IllegalArgumentException` if cells or what is out of range");
        for (int cells : Twins.outside(1, 999)) {
            Twins.refusedInEachState("ifWanted(" + cells + ", 0)", ARGUMENT, x -> x.ifWanted(cells, 0));
            Twins.refusedInEachState("ifWanted(" + cells + ", 4)", ARGUMENT, x -> x.ifWanted(cells, 4));
        }
        for (int what : Twins.outside(0, 3)) {
            Twins.refusedInEachState("ifWanted(1, " + what + ")", ARGUMENT, x -> x.ifWanted(1, what));
            Twins.refusedInEachState("ifWanted(999, " + what + "), without a block, too", ARGUMENT,
                    x -> x.ifWanted(999, what));
        }
    }

    private static void ifGiven() {
        Checks.says(22, "Tells how often blocks would be joined.");
        Checks.due("ifGiven(0)", some().ifGiven(0), 0);
        Checks.due("ifGiven(1)", some().ifGiven(1), 1);
        Checks.due("ifGiven(2)", some().ifGiven(2), 0);
        Twins.quietInEachState("ifGiven(0)", x -> x.ifGiven(0));
        Checks.says(22, "`use`: its number");
        Checks.due("ifGiven(0)", full().ifGiven(0), 0);
        SumBlocks all = Twins.made(Twins::allUses);
        int last = all.ifGiven(23);
        Checks.due("ifGiven(23)", last, all.give(23));
        Checks.says(22, "Returns what give() would return; NONE if there is no such use.");
        for (Twins.Making state : Twins.STATES) {
            for (int use = 0; use <= 23; use++) {
                SumBlocks x = Twins.made(state);
                int number = use;
                int told = x.ifGiven(use);
                Checks.due("ifGiven(" + use + ")", told < 0 ? "IllegalArgumentException" : Integer.toString(told),
                        Checks.outcome(() -> x.give(number)));
                Checks.due("ifGiven(" + use + ") behind give", x.ifGiven(use), -1);
            }
        }
        SumBlocks most = begun(14);
        most.set(1, 1);
        most.want(1);
        Checks.due("ifGiven(0), the most", most.ifGiven(0), 13);
        Checks.says(22, "Throws `IndexOutOfBoundsException` if use is not 0 to 23");
        for (int use : Twins.outside(0, 23)) {
            Twins.refusedInEachState("ifGiven(" + use + ")", INDEX, x -> x.ifGiven(use));
        }
    }

    private static void reach() {
        Checks.says(23, "Finds how far a use can grow.");
        Checks.due("reach(0), up to a used partner", Twins.made(EdgesOfForecastTest::leftPieces).reach(0), 8);
        Checks.due("reach(1), the partner is ahead", Twins.made(EdgesOfForecastTest::leftPieces).reach(1), 5);
        Twins.quietInEachState("reach(0)", x -> x.reach(0));
        Checks.says(23, "`use`: its number");
        Checks.due("reach(0)", full().reach(0), 5);
        SumBlocks all = Twins.made(Twins::allUses);
        all.give(23);
        Checks.due("reach(23)", all.reach(23), -1);
        all.undo();
        Checks.due("reach(23)", all.reach(23), greatestByGrow(Twins::allUses, 23));
        Checks.says(23, "Returns the greatest size of a block that it could have by grow(); NONE if there is no such"
                + " use.");
        for (Twins.Making state : Twins.STATES) {
            for (int use = 0; use <= 23; use++) {
                Checks.due("reach(" + use + ")", Twins.made(state).reach(use), greatestByGrow(state, use));
            }
        }
        Checks.due("reach(0), the partner is cut",
                Twins.made(x -> {
                    leftPieces(x);
                    x.shrink(1, 3);
                }).reach(0), 8);
        Checks.due("reach(0), as it cannot grow", full().reach(0), 5);
        SumBlocks farthest = begun(14);
        farthest.set(1, 1);
        farthest.want(1);
        Checks.due("reach(0), the farthest", farthest.reach(0), 987);
        Checks.due("reach(1), the next number", farthest.reach(1), -1);
        Checks.says(23, "Throws `IndexOutOfBoundsException` if use is not 0 to 23");
        for (int use : Twins.outside(0, 23)) {
            Twins.refusedInEachState("reach(" + use + ")", INDEX, x -> x.reach(use));
        }
    }

    /** The greatest block by trying grow() with each size. */
    private static int greatestByGrow(Twins.Making state, int use) {
        int greatest = -1;
        for (int order = 0; order <= 14; order++) {
            SumBlocks x = Twins.made(state);
            int size = SIZES[order];
            if (Checks.outcome(() -> x.grow(use, size)).equals(Integer.toString(order))) {
                greatest = size;
            }
        }
        return greatest;
    }

    private static void blocker() {
        Checks.says(24, "Finds the use that is in the way.");
        Checks.due("blocker()", Twins.made(EdgesOfForecastTest::leftPieces).blocker(), 0);
        Twins.quietInEachState("blocker()", SumBlocks::blocker);
        Checks.says(24, "Returns the use behind whose giving back the greatest free block would be greatest, of"
                + " several the lowest number; NONE if there is no use.");
        Checks.due("blocker() without uses", new SumBlocks().blocker(), -1);
        SumBlocks givenBack = some();
        givenBack.giveAll();
        Checks.due("blocker() behind giveAll()", givenBack.blocker(), -1);
        Checks.due("blocker() of one use", full().blocker(), 0);
        SumBlocks only = Twins.made(Twins::allUses);
        for (int use = 0; use < 23; use++) {
            only.give(use);
        }
        Checks.due("blocker(), the last number alone", only.blocker(), 23);
        for (Twins.Making state : Twins.STATES) {
            Checks.due("blocker()", Twins.made(state).blocker(), blockerByGive(state));
        }
        SumBlocks equal = begun(4);
        equal.want(5);
        equal.want(3);
        equal.shrink(0, 3);
        Checks.due("blocks", Checks.blocks(equal), "0/2/2/0 3/1/0/- 5/2/0/1");
        Checks.due("blocker(), one frees more", equal.blocker(), 0);
        equal.want(2);
        Checks.due("blocks", Checks.blocks(equal), "0/2/2/0 3/1/0/2 5/2/0/1");
        Checks.due("blocker(), the lower one of two that free as much", equal.blocker(), 0);
        SumBlocks higher = begun(4);
        higher.want(3);
        higher.want(5);
        Checks.due("blocks", Checks.blocks(higher), "0/3/1/1 5/2/0/0");
        Checks.due("blocker(), not the lowest number", higher.blocker(), 1);
        higher.shrink(1, 3);
        Checks.due("blocks", Checks.blocks(higher), "0/2/2/1 3/1/0/- 5/2/0/0");
        Checks.due("blocker(), by what is joined", higher.blocker(), 1);
        SumBlocks none = begun(5);
        none.want(1);
        none.want(1);
        Checks.due("blocks", Checks.blocks(none), "0/4/1/- 8/1/2/- 10/0/0/1 11/1/0/0");
        Checks.due("blocker(), where the greatest free block stays", none.blocker(), 0);
    }

    private static int blockerByGive(Twins.Making state) {
        return blockerOf(Twins.made(state));
    }

    /** Each use is given back, and brought back by undo(). */
    private static int blockerOf(SumBlocks x) {
        int best = -1;
        int bestOrder = -1;
        for (int use = 0; use <= 23; use++) {
            if (x.use(use, 1) < 0) {
                continue;
            }
            x.give(use);
            int order = x.count(11);
            x.undo();
            if (order > bestOrder) {
                best = use;
                bestOrder = order;
            }
        }
        return best;
    }

    private static void byWay() {
        Checks.says(25, "Finds a partner by the way on which a block was cut, without its count.");
        Checks.due("byWay(1)", some().byWay(1), 2);
        Checks.due("byWay(2)", some().byWay(2), 1);
        Twins.quietInEachState("byWay(0)", x -> x.byWay(0));
        Checks.says(25, "`place`: its place among the blocks");
        Checks.due("byWay(0), the only place", new SumBlocks().byWay(0), -1);
        Checks.due("byWay(0), the first place", some().byWay(0), -1);
        Checks.due("byWay(3), the last place", some().byWay(3), -1);
        Checks.says(25, "Returns the place of the partner that is there, looked for like this: the first block of the"
                + " memory is cut again and again, each time going on with the piece in which the address of"
                + " the block is, until that has its order and address; the other piece of the latest cut is"
                + " the partner, if there is a block with its address and order; NONE otherwise, or for the"
                + " block of the highest order (it is the same as block(.., 4) tells).");
        for (Twins.Making state : Twins.STATES) {
            SumBlocks x = Twins.made(state);
            int many = x.count(2);
            for (int place = 0; place < many; place++) {
                Checks.due("byWay(" + place + ")", x.byWay(place), x.block(place, 4));
            }
        }
        for (int order = 3; order <= 14; order++) {
            SumBlocks x = begun(order);
            Checks.due("byWay(0) of the highest order " + order, x.byWay(0), -1);
            x.want(SIZES[order - 1]);
            Checks.due("byWay(0), cut once", x.byWay(0), 1);
            Checks.due("byWay(1), cut once", x.byWay(1), 0);
            x.want(SIZES[order - 2]);
            x.shrink(0, SIZES[order - 2]);
            Checks.due("byWay(2), the partner is cut", x.byWay(2), -1);
            Checks.due("byWay(0)", x.byWay(0), 1);
            x.shrink(0, 1);
            int many = x.count(2);
            Checks.due("byWay(0) of the order 1", x.byWay(0), 1);
            Checks.due("byWay(1) of the order 0", x.byWay(1), 0);
            for (int place = 2; place < many; place++) {
                Checks.due("byWay(" + place + ")", x.byWay(place), -1);
            }
        }
        Checks.says(25, "Throws `IndexOutOfBoundsException` if there are not so many blocks");
        for (Twins.Making state : Twins.STATES) {
            int many = Twins.made(state).count(2);
            for (int place : Twins.outside(0, many - 1)) {
                Twins.refused("byWay(" + place + ")", INDEX, state, x -> x.byWay(place));
            }
        }
    }

    private static void wasteShare() {
        Checks.says(26, "Returns how much of the used cells is waste.");
        Checks.dueShare("wasteShare()", some().wasteShare(), 3.0 / 11.0);
        Twins.quietInEachState("wasteShare()", x -> Double.doubleToLongBits(x.wasteShare()));
        Checks.says(26, "Returns count(7), as a double, divided by the cells of the used blocks; 0.0 without uses.");
        Checks.dueShare("wasteShare() without uses", new SumBlocks().wasteShare(), 0.0);
        Checks.dueShare("wasteShare() without waste", full().wasteShare(), 0.0);
        SumBlocks x = begun(14);
        x.want(611);
        Checks.dueShare("wasteShare(), the greatest waste", x.wasteShare(), 376.0 / 987.0);
        x.begin(14);
        x.want(986);
        Checks.dueShare("wasteShare(), the least share", x.wasteShare(), 1.0 / 987.0);
        x.begin(3);
        x.set(1, 1);
        x.want(1);
        Checks.dueShare("wasteShare(), the greatest share", x.wasteShare(), 0.5);
        x.giveAll();
        Checks.dueShare("wasteShare(), given back", x.wasteShare(), 0.0);
        for (Twins.Making state : Twins.STATES) {
            SumBlocks y = Twins.made(state);
            int used = y.count(0) - y.count(5);
            Checks.dueShare("wasteShare()", y.wasteShare(), used == 0 ? 0.0 : (double) y.count(7) / used);
        }
    }

    private static List<Long> listed(SumBlocks x, String buffer) {
        List<Long> values = new ArrayList<>();
        for (int what = 0; what <= 12; what++) {
            values.add((long) x.count(what));
        }
        values.add((long) x.setting(0));
        values.add((long) x.setting(1));
        int many = x.count(2);
        for (int place = 0; place < many; place++) {
            for (int what = 0; what <= 4; what++) {
                values.add((long) x.block(place, what));
            }
            values.add((long) x.byWay(place));
        }
        for (int use = 0; use <= 23; use++) {
            for (int what = 0; what <= 4; what++) {
                values.add((long) x.use(use, what));
            }
            values.add((long) x.ifGiven(use));
            values.add((long) x.reach(use));
        }
        for (int cells : new int[] {1, 7, 50}) {
            for (int what = 0; what <= 3; what++) {
                values.add((long) x.ifWanted(cells, what));
            }
        }
        values.add((long) x.blocker());
        values.add(Double.doubleToLongBits(x.wasteShare()));
        values.add((long) buffer.length());
        for (int index = 0; index < buffer.length(); index++) {
            values.add((long) buffer.charAt(index));
        }
        return values;
    }

    /** The hash without any overflow, and of it the lowest 64 bits. */
    private static long hashOf(List<Long> values) {
        BigInteger hash = BigInteger.valueOf(2557);
        for (long value : values) {
            hash = hash.multiply(BigInteger.valueOf(31)).add(BigInteger.valueOf(value));
        }
        return hash.longValue();
    }

    private static void digest() {
        Checks.says(27, "Computes a hash of the whole state.");
        Twins.quietInEachState("digest()", SumBlocks::digest);
        Checks.due("digest() of two new objects", new SumBlocks().digest(), new SumBlocks().digest());
        Checks.says(27, "The hash starts at 2557. For each value v of the following list, in order, the hash becomes"
                + " 31 * hash + v, in long arithmetic with overflow.");
        Checks.due("digest()", new SumBlocks().digest(), hashOf(listed(new SumBlocks(), "")));
        Checks.says(27, "The values are: count(0) to count(12); the settings 0 and 1; for each block its properties 0"
                + " to 4, and byWay; for each use 0 to 23 its properties 0 to 4, ifGiven, and reach; ifWanted of"
                + " 1, of 7 and of 50 cells, each with 0 to 3; blocker; the bits of wasteShare (as"
                + " Double.doubleToLongBits); the length of the buffer and each of its character codes.");
        String[] buffers = {"", "w1;g", "", "w1;x", "w1;g0;".repeat(10), "g1"};
        for (int index = 0; index < buffers.length; index++) {
            SumBlocks x = Twins.made(Twins.STATES.get(index));
            Checks.due("digest() in the state " + index, x.digest(), hashOf(listed(x, buffers[index])));
        }
        for (int cells : new int[] {1, 2, 4, 6, 7, 611, 986, 987}) {
            SumBlocks x = begun(14);
            x.set(1, 1);
            x.want(cells);
            Checks.due("digest() with the wasteShare() of " + cells, x.digest(), hashOf(listed(x, "")));
        }
        Checks.says(27, "Returns the hash.");
        SumBlocks most = Twins.made(Twins::allUses);
        Checks.type(most, "~".repeat(60));
        Checks.due("digest() with 24 uses and 60 characters", most.digest(),
                hashOf(listed(most, "~".repeat(60))));
    }

    public static void main(String[] args) {
        ifWanted();
        ifWantedAtTheEdges();
        ifGiven();
        reach();
        blocker();
        byWay();
        wasteShare();
        digest();
        Checks.end();
    }
}
