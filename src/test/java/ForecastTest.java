/** Promises 21 to 27: what would be, with nothing changed. */
public final class ForecastTest {
    private static final Class<?> ARGUMENT = IllegalArgumentException.class;
    private static final Class<?> INDEX = IndexOutOfBoundsException.class;

    private static void ifWanted() {
        SumBlocks x = new SumBlocks();
        x.begin(6);
        wish(x, 1, new int[] {20, 0, 3, 0});
        wish(x, 2, new int[] {18, 1, 3, 0});
        wish(x, 3, new int[] {18, 2, 2, 0});
        wish(x, 14, new int[] {0, 6, 0, 7});
        wish(x, 22, new int[] {-1, -1, -1, -1});
        wish(x, 999, new int[] {-1, -1, -1, -1});
        x.set(1, 1);
        wish(x, 1, new int[] {0, 1, 5, 1});
        wish(x, 4, new int[] {0, 3, 3, 1});
        x.want(3);
        x.want(8);
        wish(x, 1, new int[] {3, 1, 0, 1});
        wish(x, 3, new int[] {5, 2, 0, 0});
        wish(x, 4, new int[] {8, 3, 0, 1});
        x.set(0, 1);
        x.undo();
        wish(x, 6, new int[] {-1, -1, -1, -1});
        Checks.dueUnchanged(21, "ifWanted(4, 2)", x, () -> x.ifWanted(4, 2));
        for (int wrong : new int[] {-1, Integer.MIN_VALUE, Integer.MAX_VALUE}) {
            Checks.dueThrow(21, "ifWanted(" + wrong + ", 0)", x, ARGUMENT, () -> x.ifWanted(wrong, 0));
            Checks.dueThrow(21, "ifWanted(1, " + wrong + ")", x, ARGUMENT, () -> x.ifWanted(1, wrong));
        }
        Checks.dueThrow(21, "ifWanted(0, 0)", x, ARGUMENT, () -> x.ifWanted(0, 0));
        Checks.dueThrow(21, "ifWanted(1000, 0)", x, ARGUMENT, () -> x.ifWanted(1000, 0));
        Checks.dueThrow(21, "ifWanted(1, 4)", x, ARGUMENT, () -> x.ifWanted(1, 4));
        Checks.dueThrow(21, "ifWanted(999, 4)", x, ARGUMENT, () -> x.ifWanted(999, 4));
    }

    private static void wish(SumBlocks x, int cells, int[] due) {
        for (int what = 0; what < due.length; what++) {
            Checks.due(21, "ifWanted(" + cells + ", " + what + ")", x.ifWanted(cells, what), due[what]);
        }
    }

    private static void ifWantedWithAllUses() {
        SumBlocks x = new SumBlocks();
        x.begin(14);
        x.set(1, 1);
        for (int use = 0; use < 24; use++) {
            x.want(1);
        }
        Checks.due(21, "ifWanted(377, 0) with 24 uses", x.ifWanted(377, 0), 610);
        Checks.due(21, "ifWanted(377, 3) with 24 uses", x.ifWanted(377, 3), 0);
    }

    private static void ifGiven() {
        SumBlocks x = new SumBlocks();
        x.begin(5);
        x.want(1);
        x.want(1);
        Checks.due(22, "ifGiven(0)", x.ifGiven(0), 0);
        Checks.due(22, "ifGiven(1)", x.ifGiven(1), 1);
        x.give(0);
        Checks.due(22, "ifGiven(1)", x.ifGiven(1), 3);
        Checks.dueUnchanged(22, "ifGiven(1)", x, () -> x.ifGiven(1));
        Checks.due(22, "ifGiven(0)", x.ifGiven(0), -1);
        Checks.due(22, "ifGiven(23)", x.ifGiven(23), -1);
        for (int use : new int[] {-1, 24, Integer.MIN_VALUE, Integer.MAX_VALUE}) {
            Checks.dueThrow(22, "ifGiven(" + use + ")", x, INDEX, () -> x.ifGiven(use));
        }
    }

    private static void reach() {
        SumBlocks x = new SumBlocks();
        x.begin(6);
        x.set(1, 1);
        x.want(2);
        Checks.due(23, "reach(0)", x.reach(0), 21);
        x.want(3);
        Checks.due(23, "blocks", Checks.blocks(x), "0/1/5/0 2/0/0/- 3/1/0/- 5/2/0/1 8/3/0/- 13/4/0/-");
        Checks.due(23, "reach(0)", x.reach(0), 5);
        Checks.due(23, "reach(1)", x.reach(1), 3);
        Checks.dueUnchanged(23, "reach(0)", x, () -> x.reach(0));
        x.want(1);
        Checks.due(23, "reach(0)", x.reach(0), 2);
        Checks.due(23, "reach(2)", x.reach(2), 1);
        x.give(0);
        Checks.due(23, "reach(2) with its partner ahead", x.reach(2), 1);
        Checks.due(23, "reach(0)", x.reach(0), -1);
        for (int use : new int[] {-1, 24, Integer.MIN_VALUE, Integer.MAX_VALUE}) {
            Checks.dueThrow(23, "reach(" + use + ")", x, INDEX, () -> x.reach(use));
        }
        x.begin(14);
        x.want(987);
        Checks.due(23, "reach(0) of all cells", x.reach(0), 987);
    }

    private static void blocker() {
        SumBlocks x = new SumBlocks();
        Checks.due(24, "blocker() without uses", x.blocker(), -1);
        x.begin(5);
        x.set(1, 1);
        x.want(2);
        x.want(5);
        Checks.due(24, "blocks", Checks.blocks(x), "0/1/4/0 2/0/0/- 3/1/0/- 5/2/0/- 8/3/0/1");
        Checks.due(24, "blocker()", x.blocker(), 0);
        x.want(3);
        Checks.due(24, "blocks", Checks.blocks(x), "0/1/4/0 2/0/0/- 3/1/0/- 5/2/0/2 8/3/0/1");
        Checks.due(24, "blocker(), the lowest of two", x.blocker(), 0);
        x.want(2);
        Checks.due(24, "blocks", Checks.blocks(x), "0/1/4/0 2/0/0/- 3/1/0/3 5/2/0/2 8/3/0/1");
        Checks.due(24, "blocker()", x.blocker(), 1);
        Checks.dueUnchanged(24, "blocker()", x, x::blocker);
        x.give(1);
        Checks.due(24, "blocker(), where none makes it greater", x.blocker(), 0);
    }

    private static void byWay() {
        SumBlocks x = new SumBlocks();
        Checks.due(25, "byWay(0) of the highest order", x.byWay(0), -1);
        x.begin(6);
        x.set(1, 1);
        x.want(2);
        int[] due = {1, 0, -1, -1, -1, -1};
        for (int place = 0; place < due.length; place++) {
            Checks.due(25, "byWay(" + place + ")", x.byWay(place), due[place]);
        }
        x.grow(0, 13);
        Checks.due(25, "byWay(0), partner behind", x.byWay(0), 1);
        Checks.due(25, "byWay(1), partner ahead", x.byWay(1), 0);
        x.set(1, 0);
        x.want(3);
        Checks.due(25, "blocks", Checks.blocks(x), "0/5/1/0 13/3/1/- 18/2/0/1");
        Checks.due(25, "byWay(0), partner is cut", x.byWay(0), -1);
        Checks.due(25, "byWay(1)", x.byWay(1), 2);
        Checks.due(25, "byWay(2)", x.byWay(2), 1);
        Checks.dueUnchanged(25, "byWay(2)", x, () -> x.byWay(2));
        for (int place : new int[] {-1, 3, 313, Integer.MIN_VALUE, Integer.MAX_VALUE}) {
            Checks.dueThrow(25, "byWay(" + place + ")", x, INDEX, () -> x.byWay(place));
        }
    }

    private static void wasteShare() {
        SumBlocks x = new SumBlocks();
        Checks.dueShare(26, "wasteShare() without uses", x.wasteShare(), 0.0);
        x.want(5);
        Checks.dueShare(26, "wasteShare() without waste", x.wasteShare(), 0.0);
        x.want(4);
        Checks.dueShare(26, "wasteShare()", x.wasteShare(), 1.0 / 10.0);
        x.want(35);
        Checks.dueShare(26, "wasteShare()", x.wasteShare(), 21.0 / 65.0);
        x.shrink(2, 9);
        Checks.dueShare(26, "wasteShare()", x.wasteShare(), 5.0 / 23.0);
        x.giveAll();
        Checks.dueShare(26, "wasteShare() without uses", x.wasteShare(), 0.0);
    }

    /** The digest as the document lists its values, from the answers of the other calls. */
    private static long listed(SumBlocks x, String buffer) {
        long hash = 2557;
        for (int what = 0; what <= 12; what++) {
            hash = 31 * hash + x.count(what);
        }
        hash = 31 * hash + x.setting(0);
        hash = 31 * hash + x.setting(1);
        for (int place = 0; place < x.count(2); place++) {
            for (int what = 0; what <= 4; what++) {
                hash = 31 * hash + x.block(place, what);
            }
            hash = 31 * hash + x.byWay(place);
        }
        for (int use = 0; use <= 23; use++) {
            for (int what = 0; what <= 4; what++) {
                hash = 31 * hash + x.use(use, what);
            }
            hash = 31 * hash + x.ifGiven(use);
            hash = 31 * hash + x.reach(use);
        }
        for (int cells : new int[] {1, 7, 50}) {
            for (int what = 0; what <= 3; what++) {
                hash = 31 * hash + x.ifWanted(cells, what);
            }
        }
        hash = 31 * hash + x.blocker();
        hash = 31 * hash + Double.doubleToLongBits(x.wasteShare());
        hash = 31 * hash + buffer.length();
        for (int index = 0; index < buffer.length(); index++) {
            hash = 31 * hash + buffer.charAt(index);
        }
        return hash;
    }

    private static void digest() {
        SumBlocks empty = new SumBlocks();
        Checks.due(27, "digest()", empty.digest(), listed(empty, ""));
        SumBlocks x = new SumBlocks();
        x.want(4);
        x.want(10);
        Checks.due(27, "digest()", x.digest(), listed(x, ""));
        SumBlocks typed = new SumBlocks();
        typed.want(4);
        typed.want(10);
        Checks.type(typed, "w1;g~!");
        typed.set(1, 1);
        typed.shrink(1, 3);
        typed.give(0);
        Checks.due(27, "digest()", typed.digest(), listed(typed, "w1;g~!"));
        Checks.dueUnchanged(27, "digest()", typed, typed::digest);
    }

    /** One use of each waste that there can be: the bits of the share are made without the library. */
    private static void digestOfShares() {
        int[] sizes = {1, 2, 3, 5, 8, 13, 21, 34, 55, 89, 144, 233, 377, 610, 987};
        for (int cells = 1; cells <= 987; cells++) {
            SumBlocks x = new SumBlocks();
            x.begin(14);
            x.want(cells);
            Checks.due(27, "digest() of a use of " + cells, x.digest(), listed(x, ""));
        }
        for (int order = 3; order <= 14; order++) {
            SumBlocks x = new SumBlocks();
            x.begin(order);
            x.want(sizes[order]);
            x.shrink(0, 1);
            x.want(1);
            Checks.due(27, "digest()", x.digest(), listed(x, ""));
        }
    }

    public static void main(String[] args) {
        ifWanted();
        ifWantedWithAllUses();
        ifGiven();
        reach();
        blocker();
        byWay();
        wasteShare();
        digest();
        digestOfShares();
        Checks.end();
    }
}
