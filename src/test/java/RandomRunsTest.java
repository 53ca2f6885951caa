/**
 * Runs of calls in a fixed mixed order, each answer compared with the one of the tree model. A run has
 * as many calls as an object is used for, and ends with digest().
 */
public final class RandomRunsTest {
    private static final int RUNS = 400;
    private static final int CALLS = 512;
    private static final String[] METHODS = {"", "", "begin", "want", "give", "giveAll", "grow",
        "shrink", "set", "append", "clearBuffer", "firstError", "run", "undo", "size", "block",
        "use", "at", "many", "count", "setting", "ifWanted", "ifGiven", "reach", "blocker", "byWay",
        "wasteShare", "digest"};
    // How often each method is called, by its promise.
    private static final int[] WEIGHTS = {0, 0, 2, 60, 30, 1, 20, 20, 6, 60, 3, 6, 10, 14, 1, 14,
        8, 4, 4, 14, 2, 8, 6, 6, 4, 6, 4, 12};
    private static final String CODES = "wwwgg;;;0123456789x";

    private final long seed;
    private long mixed;
    private final int mostCells;
    private int made = 0;
    private final SumBlocks x = new SumBlocks();
    private final TreeModel model = new TreeModel();

    private RandomRunsTest(long seed, int mostCells) {
        this.seed = seed;
        this.mixed = seed * 0x9E3779B97F4A7C15L + 1;
        this.mostCells = mostCells;
    }

    private int next(int bound) {
        mixed = mixed * 6364136223846793005L + 1442695040888963407L;
        return (int) ((mixed >>> 33) % bound);
    }

    private int from(int least, int greatest) {
        return least + next(greatest - least + 1);
    }

    private int method() {
        int sum = 0;
        for (int weight : WEIGHTS) {
            sum += weight;
        }
        int left = next(sum);
        int promise = 0;
        while (left >= WEIGHTS[promise]) {
            left -= WEIGHTS[promise];
            promise++;
        }
        return promise;
    }

    private int number(int least, int greatest) {
        int kind = next(400);
        return kind == 0 ? Integer.MIN_VALUE
                : kind == 1 ? Integer.MAX_VALUE
                : kind < 8 ? least - 1
                : kind < 15 ? greatest + 1 : from(least, greatest);
    }

    private int cells() {
        return next(8) == 0 ? number(1, 999) : from(1, mostCells);
    }

    private int aUse() {
        return next(4) == 0 ? number(0, 23) : from(0, Math.max(0, model.count(4) - 1));
    }

    private int code() {
        return next(60) == 0 ? number(33, 126) : CODES.charAt(next(CODES.length()));
    }

    private void call() {
        int promise = made == CALLS - 1 ? 27 : method();
        int a = 0;
        int b = 0;
        switch (promise) {
            case 2: a = number(3, 14); break;
            case 3: a = cells(); break;
            case 4: case 22: case 23: a = aUse(); break;
            case 6: case 7: a = aUse(); b = cells(); break;
            case 8: a = number(0, 1); b = number(0, 1); break;
            case 9: a = code(); break;
            case 14: a = number(0, 14); break;
            case 15: a = number(0, model.count(2) - 1); b = number(0, 4); break;
            case 16: a = aUse(); b = number(0, 4); break;
            case 17: a = number(0, model.count(0) - 1); break;
            case 18: a = number(0, 14); b = next(2); break;
            case 19: a = number(0, 12); break;
            case 20: a = number(0, 1); break;
            case 21: a = cells(); b = number(0, 3); break;
            case 25: a = number(0, model.count(2) - 1); break;
            default: break;
        }
        compare(promise, a, b);
    }

    private void compare(int promise, int a, int b) {
        made++;
        String call = METHODS[promise] + "(" + a + ", " + b + ") in the run " + seed;
        Checks.due(promise, call, Checks.outcome(() -> answer(promise, a, b)),
                Checks.outcome(() -> due(promise, a, b)));
    }

    private long answer(int promise, int a, int b) {
        switch (promise) {
            case 2: return x.begin(a);
            case 3: return x.want(a);
            case 4: return x.give(a);
            case 5: return x.giveAll();
            case 6: return x.grow(a, b);
            case 7: return x.shrink(a, b);
            case 8: return x.set(a, b);
            case 9: return x.append(a);
            case 10: return x.clearBuffer();
            case 11: return x.firstError();
            case 12: return x.run();
            case 13: return x.undo();
            case 14: return x.size(a);
            case 15: return x.block(a, b);
            case 16: return x.use(a, b);
            case 17: return x.at(a);
            case 18: return x.many(a, b == 1);
            case 19: return x.count(a);
            case 20: return x.setting(a);
            case 21: return x.ifWanted(a, b);
            case 22: return x.ifGiven(a);
            case 23: return x.reach(a);
            case 24: return x.blocker();
            case 25: return x.byWay(a);
            case 26: return Double.doubleToLongBits(x.wasteShare());
            default: return x.digest();
        }
    }

    private long due(int promise, int a, int b) {
        switch (promise) {
            case 2: return model.begin(a);
            case 3: return model.want(a);
            case 4: return model.give(a);
            case 5: return model.giveAll();
            case 6: return model.grow(a, b);
            case 7: return model.shrink(a, b);
            case 8: return model.set(a, b);
            case 9: return model.append(a);
            case 10: return model.clearBuffer();
            case 11: return model.firstError();
            case 12: return model.run();
            case 13: return model.undo();
            case 14: return model.size(a);
            case 15: return model.block(a, b);
            case 16: return model.use(a, b);
            case 17: return model.at(a);
            case 18: return model.many(a, b == 1);
            case 19: return model.count(a);
            case 20: return model.setting(a);
            case 21: return model.ifWanted(a, b);
            case 22: return model.ifGiven(a);
            case 23: return model.reach(a);
            case 24: return model.blocker();
            case 25: return model.byWay(a);
            case 26: return Double.doubleToLongBits(model.wasteShare());
            default: return model.digest();
        }
    }

    // A row of orders that is mostly right, so that run() is not only refused.
    private void typeRow() {
        StringBuilder row = new StringBuilder();
        int orders = from(1, 8);
        for (int order = 0; order < orders; order++) {
            row.append(order == 0 ? "" : ";").append(next(3) == 0 ? "g" + from(0, 9) : "w" + from(1, mostCells));
        }
        if (made + row.length() + 4 > CALLS) {
            return;
        }
        compare(10, 0, 0);
        for (int index = 0; index < row.length(); index++) {
            compare(9, row.charAt(index), 0);
        }
        compare(11, 0, 0);
        compare(12, 0, 0);
    }

    private void go() {
        while (made < CALLS) {
            if (next(60) == 0) {
                typeRow();
            }
            call();
        }
    }

    public static void main(String[] args) {
        int[] mostCells = {3, 10, 40, 200, 999};
        for (int run = 0; run < RUNS; run++) {
            new RandomRunsTest(run, mostCells[run % mostCells.length]).go();
        }
        Checks.end();
    }
}
