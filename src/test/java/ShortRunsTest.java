/** All runs of four calls out of some, in the smallest memories, compared with the tree model. */
public final class ShortRunsTest {
    private static final int CALLS = 4;
    private static final String[] KINDS = {"want(1)", "want(2)", "want(3)", "want(5)", "give(0)", "give(1)",
        "shrink(0, 1)", "shrink(1, 2)", "grow(0, 3)", "grow(1, 5)", "set(0, 1)", "set(1, 1)", "giveAll()",
        "undo()"};

    private static long answer(SumBlocks x, int kind) {
        switch (kind) {
            case 0: return x.want(1);
            case 1: return x.want(2);
            case 2: return x.want(3);
            case 3: return x.want(5);
            case 4: return x.give(0);
            case 5: return x.give(1);
            case 6: return x.shrink(0, 1);
            case 7: return x.shrink(1, 2);
            case 8: return x.grow(0, 3);
            case 9: return x.grow(1, 5);
            case 10: return x.set(0, 1);
            case 11: return x.set(1, 1);
            case 12: return x.giveAll();
            default: return x.undo();
        }
    }

    private static long due(TreeModel model, int kind) {
        switch (kind) {
            case 0: return model.want(1);
            case 1: return model.want(2);
            case 2: return model.want(3);
            case 3: return model.want(5);
            case 4: return model.give(0);
            case 5: return model.give(1);
            case 6: return model.shrink(0, 1);
            case 7: return model.shrink(1, 2);
            case 8: return model.grow(0, 3);
            case 9: return model.grow(1, 5);
            case 10: return model.set(0, 1);
            case 11: return model.set(1, 1);
            case 12: return model.giveAll();
            default: return model.undo();
        }
    }

    private static void run(int order, int number) {
        SumBlocks x = new SumBlocks();
        TreeModel model = new TreeModel();
        x.begin(order);
        model.begin(order);
        StringBuilder calls = new StringBuilder("begin(").append(order).append(')');
        int left = number;
        for (int call = 0; call < CALLS; call++) {
            int kind = left % KINDS.length;
            left /= KINDS.length;
            calls.append(", ").append(KINDS[kind]);
            Checks.due(0, calls.toString(), Checks.outcome(() -> answer(x, kind)),
                    Checks.outcome(() -> due(model, kind)));
        }
        Checks.due(27, "digest() behind " + calls, x.digest(), model.digest());
    }

    public static void main(String[] args) {
        int runs = 1;
        for (int call = 0; call < CALLS; call++) {
            runs *= KINDS.length;
        }
        for (int number = 0; number < runs; number++) {
            run(3, number);
            run(5, number);
        }
        Checks.end();
    }
}
