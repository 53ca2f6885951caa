/** Promises 9 to 13: the buffer, orders as texts, and undo. */
public final class TextsTest {
    private static final Class<?> ARGUMENT = IllegalArgumentException.class;
    private static final Class<?> STATE = IllegalStateException.class;

    private static SumBlocks typed(String text) {
        SumBlocks x = new SumBlocks();
        Checks.type(x, text);
        return x;
    }

    private static void append() {
        SumBlocks x = new SumBlocks();
        Checks.due(9, "append(33)", x.append(33), 1);
        Checks.due(9, "append(126)", x.append(126), 2);
        Checks.due(9, "count(12)", x.count(12), 0);
        for (int code : new int[] {32, 127, 0, -1, Integer.MIN_VALUE, Integer.MAX_VALUE}) {
            Checks.dueThrow(9, "append(" + code + ")", x, ARGUMENT, () -> x.append(code));
        }
        for (int length = 3; length <= 60; length++) {
            Checks.due(9, "append('w')", x.append('w'), length);
        }
        Checks.dueThrow(9, "append(33) to 60", x, STATE, () -> x.append(33));
        Checks.dueThrow(9, "append(32) to 60", x, ARGUMENT, () -> x.append(32));
        Checks.due(9, "clearBuffer()", x.clearBuffer(), 60);
    }

    private static void clearBuffer() {
        SumBlocks x = typed("w7;g");
        Checks.due(10, "clearBuffer()", x.clearBuffer(), 4);
        Checks.due(10, "clearBuffer() again", x.clearBuffer(), 0);
        Checks.due(10, "append(49)", x.append(49), 1);
        Checks.due(10, "count(12)", x.count(12), 0);
    }

    private static void firstError() {
        String[] right = {"", "w", "g", "w1", "w12", "w999", "g0", "g9", "g1", "g10", "g19", "g2", "g20",
            "g23", "w1;", "w1;g", "w1;w", "g0;w999;g23", "g3;"};
        for (String text : right) {
            Checks.due(11, "firstError() of " + text, typed(text).firstError(), text.length());
        }
        String[] before = {"", "w", "w", "w1", "w12", "w999", "g", "g0", "g3", "g9", "g10", "g2", "g2",
            "g23", "w1;", "w1;", "g5", "w999", "w7", "g1"};
        String[] wrong = {"x", "0", "w", "g", "w", "0", ";", "5", "0", "9", "0", "4", "9",
            "0", ";", "1", "w", "w", "!", "x"};
        for (int index = 0; index < wrong.length; index++) {
            String text = before[index] + wrong[index] + "w1";
            Checks.due(11, "firstError() of " + text, typed(text).firstError(), before[index].length());
        }
        SumBlocks x = typed("w1;ww");
        Checks.dueUnchanged(11, "firstError()", x, x::firstError);
        StringBuilder full = new StringBuilder("w10");
        while (full.length() < 60) {
            full.append(";g7");
        }
        full.setLength(60);
        Checks.due(11, "firstError() of " + full, typed(full.toString()).firstError(), 60);
    }

    private static void run() {
        SumBlocks x = new SumBlocks();
        x.begin(5);
        Checks.type(x, "w1;w1;g0;w6");
        Checks.due(12, "run()", x.run(), 4);
        Checks.due(12, "blocks", Checks.blocks(x), "0/4/1/0 8/1/2/- 10/0/0/1 11/1/0/-");
        Checks.due(12, "count(10)", x.count(10), 3);
        Checks.due(12, "count(12)", x.count(12), 2);
        Checks.due(12, "clearBuffer()", x.clearBuffer(), 0);
        Checks.type(x, "w2;w6;w1");
        Checks.due(12, "run() up to one without room", x.run(), 1);
        Checks.due(12, "use(2, 4)", x.use(2, 4), 8);
        Checks.due(12, "count(4)", x.count(4), 3);
        Checks.type(x, "g0;g5;g1");
        Checks.due(12, "run() up to one without such a use", x.run(), 1);
        Checks.due(12, "count(4)", x.count(4), 2);
        Checks.type(x, "g23");
        Checks.due(12, "run() of none", x.run(), 0);
        Checks.due(12, "count(12)", x.count(12), 5);
        Checks.due(12, "clearBuffer()", x.clearBuffer(), 0);
        Checks.type(x, "g1");
        x.undo();
        x.undo();
        Checks.due(12, "count(4) behind undo()", x.count(4), 3);
        Checks.due(12, "the buffer behind undo()", x.clearBuffer(), 2);
    }

    private static void runOfUnlikeTexts() {
        String[] wrong = {"", "w", "g", "w1;", "w0", "w1;g", "g24", "w1000", "w1;;w1", ";", "1", "w01", "x"};
        for (String text : wrong) {
            SumBlocks x = typed(text);
            Checks.dueThrow(12, "run() of " + text, x, ARGUMENT, x::run);
            Checks.due(12, "clearBuffer() behind run() of " + text, x.clearBuffer(), text.length());
        }
        SumBlocks full = new SumBlocks();
        full.begin(14);
        Checks.type(full, "w1;w1;w1;w1;w1;w1;w1;w1;w1;w1;w1;w1;w1;w1;w1;w1;w1;w1;w1;w1");
        Checks.due(12, "run() of 20", full.run(), 20);
        Checks.type(full, "w1;w1;w1;w1;w1;w1");
        Checks.due(12, "run() up to 24 uses", full.run(), 4);
        Checks.due(12, "count(4)", full.count(4), 24);
        Checks.type(full, "g23;g10;w987;w999");
        Checks.due(12, "run() of two digits", full.run(), 2);
        Checks.due(12, "use(23, 1)", full.use(23, 1), -1);
        Checks.due(12, "use(10, 1)", full.use(10, 1), -1);
        full.begin(14);
        Checks.type(full, "w987");
        Checks.due(12, "run() of three digits", full.run(), 1);
        Checks.due(12, "use(0, 1)", full.use(0, 1), 987);
    }

    private static void undo() {
        SumBlocks x = new SumBlocks();
        Checks.dueThrow(13, "undo()", x, STATE, x::undo);
        long[] before = new long[8];
        for (int call = 0; call < 8; call++) {
            before[call] = digestWithoutSaved(x);
            x.want(3 + call);
        }
        Checks.due(13, "count(12)", x.count(12), 6);
        for (int left = 5; left >= 0; left--) {
            Checks.due(13, "undo()", x.undo(), left);
            Checks.due(13, "count(10)", x.count(10), left + 2);
            Checks.due(13, "state", digestWithoutSaved(x), before[left + 2]);
        }
        Checks.dueThrow(13, "undo() of the seventh", x, STATE, x::undo);
        x.set(1, 1);
        x.giveAll();
        x.begin(3);
        Checks.due(13, "undo() of begin", x.undo(), 2);
        Checks.due(13, "count(0)", x.count(0), 89);
        Checks.due(13, "undo() of giveAll", x.undo(), 1);
        Checks.due(13, "count(4)", x.count(4), 2);
        Checks.due(13, "undo() of set", x.undo(), 0);
        Checks.due(13, "setting(1)", x.setting(1), 0);
        Checks.due(13, "state", digestWithoutSaved(x), before[2]);
    }

    // The count of the saved states is left out, as an undo does not bring it back.
    private static long digestWithoutSaved(SumBlocks x) {
        long hash = 0;
        for (int what = 0; what < 12; what++) {
            hash = 31 * hash + x.count(what);
        }
        for (int use = 0; use < 9; use++) {
            hash = 31 * hash + x.use(use, 4);
        }
        return 31 * hash + 2 * x.setting(0) + x.setting(1);
    }

    private static void undoOfThrowingCalls() {
        SumBlocks x = new SumBlocks();
        x.begin(3);
        x.want(5);
        Checks.outcome(() -> x.want(1));
        Checks.outcome(() -> x.give(7));
        Checks.outcome(() -> x.grow(0, 6));
        Checks.outcome(() -> x.shrink(0, 6));
        Checks.outcome(() -> x.set(0, 3));
        Checks.outcome(() -> x.begin(1));
        Checks.outcome(x::run);
        Checks.due(13, "count(12) behind calls that throw", x.count(12), 2);
        Checks.type(x, "g0");
        Checks.due(13, "count(12) behind append", x.count(12), 2);
        Checks.due(13, "undo()", x.undo(), 1);
        Checks.due(13, "the buffer stays", x.clearBuffer(), 2);
        Checks.due(13, "blocks", Checks.blocks(x), "0/3/0/-");
    }

    public static void main(String[] args) {
        append();
        clearBuffer();
        firstError();
        run();
        runOfUnlikeTexts();
        undo();
        undoOfThrowingCalls();
        Checks.end();
    }
}
