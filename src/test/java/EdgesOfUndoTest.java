/** The edges that the terms "Undo" and "Exceptions" and the promise 13 name. */
public final class EdgesOfUndoTest {
    private static final Class<?> ARGUMENT = IllegalArgumentException.class;
    private static final Class<?> STATE = IllegalStateException.class;
    private static final Class<?> INDEX = IndexOutOfBoundsException.class;

    private static void someUsesAndRow(SumBlocks x) {
        Twins.someUses(x);
        x.clearBuffer();
        Checks.type(x, "g2;w3");
    }

    private static void undoableCalls() {
        Checks.says(0, "Each method that is marked \"undoable\" and does not throw an exception saves the state from"
                + " before it (also if it changes nothing): all, also what is counted so far, but the buffer"
                + " and the saved states.");
        Twins.Making state = EdgesOfUndoTest::someUsesAndRow;
        Twins.savesOne("begin(14)", state, x -> x.begin(14));
        Twins.savesOne("want(2)", state, x -> x.want(2));
        Twins.savesOne("give(1)", state, x -> x.give(1));
        Twins.savesOne("giveAll()", state, SumBlocks::giveAll);
        Twins.savesOne("grow(2, 8)", state, x -> x.grow(2, 8));
        Twins.savesOne("shrink(2, 1)", state, x -> x.shrink(2, 1));
        Twins.savesOne("set(0, 1)", state, x -> x.set(0, 1));
        Twins.savesOne("run()", state, SumBlocks::run);
    }

    private static void callsThatChangeNothing() {
        Checks.says(0, "Each method that is marked \"undoable\" and does not throw an exception saves the state from"
                + " before it (also if it changes nothing): all, also what is counted so far, but the buffer"
                + " and the saved states.");
        Twins.savesOne("begin(9), as it is", x -> { }, x -> x.begin(9));
        Twins.savesOne("giveAll() without uses", x -> { }, SumBlocks::giveAll);
        Twins.savesOne("set(0, 0), as it is", x -> { }, x -> x.set(0, 0));
        Twins.savesOne("set(1, 0), as it is", x -> { }, x -> x.set(1, 0));
        Twins.savesOne("grow(0, 4), as it is", x -> x.want(4), x -> x.grow(0, 4));
        Twins.savesOne("shrink(0, 4), as it is", x -> x.want(4), x -> x.shrink(0, 4));
        Twins.savesOne("run() of none", x -> Checks.type(x, "g0"), SumBlocks::run);
        for (Twins.Making state : Twins.STATES) {
            Twins.savesOne("set(0, 0)", state, x -> x.set(0, 0));
        }
    }

    private static void whatIsNotSaved() {
        Checks.says(0, "Each method that is marked \"undoable\" and does not throw an exception saves the state from"
                + " before it (also if it changes nothing): all, also what is counted so far, but the buffer"
                + " and the saved states.");
        SumBlocks x = new SumBlocks();
        Checks.type(x, "w1");
        x.want(5);
        x.append(';');
        x.undo();
        Checks.due("clearBuffer(), not what it was", x.clearBuffer(), 3);
        Checks.type(x, "w7");
        x.run();
        x.undo();
        Checks.due("clearBuffer(), as run() has cleared it", x.clearBuffer(), 0);
        Checks.type(x, "w8");
        x.set(1, 1);
        x.clearBuffer();
        x.undo();
        Checks.due("clearBuffer(), as it was cleared", x.clearBuffer(), 0);
        x.want(1);
        x.want(1);
        x.want(1);
        x.undo();
        Checks.due("count(12), not what it was", x.count(12), 2);
        Checks.due("append('w')", x.append('w'), 1);
        Checks.due("append('1')", x.append('1'), 2);
        Checks.due("firstError()", x.firstError(), 2);
        Checks.due("count(12), not undoable", x.count(12), 2);
        x.clearBuffer();
        Checks.due("count(12), not undoable", x.count(12), 2);
        Checks.due("undo()", x.undo(), 1);
        Checks.due("undo(), as undo() is not undoable", x.undo(), 0);
    }

    private static void whatIsCounted() {
        Checks.says(0, "Each method that is marked \"undoable\" and does not throw an exception saves the state from"
                + " before it (also if it changes nothing): all, also what is counted so far, but the buffer"
                + " and the saved states.");
        SumBlocks x = new SumBlocks();
        x.begin(5);
        x.want(1);
        x.give(0);
        x.want(2);
        counted(x, 4, 2, 2);
        x.begin(14);
        x.set(1, 1);
        x.want(1);
        counted(x, 17, 2, 3);
        x.giveAll();
        counted(x, 17, 15, 3);
        x.undo();
        counted(x, 17, 2, 3);
        x.undo();
        counted(x, 4, 2, 2);
        Checks.due("setting(1)", x.setting(1), 1);
        x.undo();
        Checks.due("setting(1)", x.setting(1), 0);
        x.undo();
        Checks.due("count(1)", x.count(1), 5);
        counted(x, 4, 2, 2);
        x.undo();
        counted(x, 2, 2, 1);
        x.undo();
        counted(x, 2, 0, 1);
    }

    private static void counted(SumBlocks x, int cuts, int joins, int wishes) {
        Checks.due("count(8)", x.count(8), cuts);
        Checks.due("count(9)", x.count(9), joins);
        Checks.due("count(10)", x.count(10), wishes);
    }

    private static void atMostSix() {
        Checks.says(0, "At most 6 states are saved; the oldest one is dropped first.");
        for (int calls = 0; calls <= 20; calls++) {
            String[] before = new String[calls];
            SumBlocks x = new SumBlocks();
            for (int call = 0; call < calls; call++) {
                before[call] = Checks.blocks(x);
                x.begin(3 + call % 12);
                Checks.due("count(12) behind " + (call + 1), x.count(12), Math.min(call + 1, 6));
            }
            int left = Math.min(calls, 6);
            for (int back = 1; back <= Math.min(calls, 6); back++) {
                left--;
                Checks.due("undo() " + back + " of " + calls, x.undo(), left);
                Checks.due("what is restored", Checks.blocks(x), before[calls - back]);
            }
            Checks.due("undo() too often", Checks.outcome(x::undo), "IllegalStateException");
        }
    }

    private static void savedAgain() {
        Checks.says(0, "At most 6 states are saved; the oldest one is dropped first.");
        SumBlocks x = new SumBlocks();
        for (int order = 3; order <= 8; order++) {
            x.begin(order);
        }
        Checks.due("undo()", x.undo(), 5);
        Checks.due("undo()", x.undo(), 4);
        Checks.due("count(1)", x.count(1), 6);
        x.begin(12);
        x.begin(13);
        Checks.due("count(12), six again, and none dropped", x.count(12), 6);
        x.begin(14);
        Checks.due("count(12), the oldest one dropped", x.count(12), 6);
        int[] due = {13, 12, 6, 5, 4, 3};
        for (int back = 0; back < 6; back++) {
            Checks.due("undo()", x.undo(), 5 - back);
            Checks.due("count(1)", x.count(1), due[back]);
        }
        Checks.due("undo() too often", Checks.outcome(x::undo), "IllegalStateException");
    }

    private static void refusedCalls() {
        Checks.says(0, "A call that throws an exception changes nothing.");
        for (Twins.Making state : Twins.STATES) {
            Twins.refused("begin(2)", ARGUMENT, state, x -> x.begin(2));
            Twins.refused("want(0)", ARGUMENT, state, x -> x.want(0));
            Twins.refused("want(999)", STATE, state, x -> x.want(999));
            Twins.refused("give(24)", ARGUMENT, state, x -> x.give(24));
            Twins.refused("grow(24, 1)", ARGUMENT, state, x -> x.grow(24, 1));
            Twins.refused("shrink(24, 1)", ARGUMENT, state, x -> x.shrink(24, 1));
            Twins.refused("set(2, 0)", INDEX, state, x -> x.set(2, 0));
            Twins.refused("set(0, 2)", ARGUMENT, state, x -> x.set(0, 2));
            Twins.refused("append(32)", ARGUMENT, state, x -> x.append(32));
            Twins.refused("run()", ARGUMENT, x -> {
                state.make(x);
                x.clearBuffer();
                Checks.type(x, "w1;");
            }, SumBlocks::run);
            Twins.refused("undo()", STATE, x -> {
                state.make(x);
                while (x.count(12) > 0) {
                    x.undo();
                }
            }, SumBlocks::undo);
            Twins.refused("size(15)", ARGUMENT, state, x -> x.size(15));
            Twins.refused("block(999, 0)", INDEX, state, x -> x.block(999, 0));
            Twins.refused("block(0, 5)", ARGUMENT, state, x -> x.block(0, 5));
            Twins.refused("use(24, 0)", INDEX, state, x -> x.use(24, 0));
            Twins.refused("use(0, 5)", ARGUMENT, state, x -> x.use(0, 5));
            Twins.refused("at(987)", INDEX, state, x -> x.at(987));
            Twins.refused("many(15, true)", ARGUMENT, state, x -> x.many(15, true));
            Twins.refused("count(13)", ARGUMENT, state, x -> x.count(13));
            Twins.refused("setting(2)", INDEX, state, x -> x.setting(2));
            Twins.refused("ifWanted(0, 0)", ARGUMENT, state, x -> x.ifWanted(0, 0));
            Twins.refused("ifWanted(1, 4)", ARGUMENT, state, x -> x.ifWanted(1, 4));
            Twins.refused("ifGiven(24)", INDEX, state, x -> x.ifGiven(24));
            Twins.refused("reach(24)", INDEX, state, x -> x.reach(24));
            Twins.refused("byWay(999)", INDEX, state, x -> x.byWay(999));
        }
        Twins.refused("grow(0, 6)", STATE, Twins::fullMemory, x -> x.grow(0, 6));
        Twins.refused("append('w')", STATE, Twins::fullBufferAndSavedStates, x -> x.append('w'));
    }

    private static void severalExceptions() {
        Checks.says(0, "If several exceptions apply, the one that is named first in the throws clause is thrown.");
        Twins.refused("want(0) with 24 uses", ARGUMENT, Twins::allUses, x -> x.want(0));
        Twins.refused("want(1000) with 24 uses", ARGUMENT, Twins::allUses, x -> x.want(1000));
        Twins.refused("want(0) in a full memory", ARGUMENT, Twins::fullMemory, x -> x.want(0));
        Twins.refused("want(1000) in a full memory", ARGUMENT, Twins::fullMemory, x -> x.want(1000));
        Twins.refused("grow(0, 1000), where it cannot", ARGUMENT, Twins::fullMemory, x -> x.grow(0, 1000));
        Twins.refused("grow(0, 0), where it cannot", ARGUMENT, Twins::fullMemory, x -> x.grow(0, 0));
        Twins.refused("grow(1, 999), no such use", ARGUMENT, Twins::fullMemory, x -> x.grow(1, 999));
        for (int wrong : Twins.outside(0, 1)) {
            Twins.refusedInEachState("set(2, " + wrong + ")", INDEX, x -> x.set(2, wrong));
            Twins.refusedInEachState("set(" + wrong + ", 2)", INDEX, x -> x.set(wrong, 2));
        }
        for (int code : Twins.outside(33, 126)) {
            Twins.refused("append(" + code + ") to 60", ARGUMENT, Twins::fullBufferAndSavedStates,
                    x -> x.append(code));
        }
        for (int wrong : Twins.outside(0, 4)) {
            Twins.refusedInEachState("block(-1, " + wrong + ")", INDEX, x -> x.block(-1, wrong));
            Twins.refusedInEachState("block(999, " + wrong + ")", INDEX, x -> x.block(999, wrong));
            Twins.refusedInEachState("use(-1, " + wrong + ")", INDEX, x -> x.use(-1, wrong));
            Twins.refusedInEachState("use(24, " + wrong + ")", INDEX, x -> x.use(24, wrong));
        }
    }

    private static void undo() {
        Checks.says(13, "Restores the latest saved state, and drops it.");
        SumBlocks x = new SumBlocks();
        x.begin(3);
        x.begin(4);
        x.begin(5);
        x.undo();
        Checks.due("count(1), the latest one", x.count(1), 4);
        x.undo();
        Checks.due("count(1), as that is dropped", x.count(1), 3);
        x.undo();
        Checks.due("count(1), the first one", x.count(1), 9);
        Checks.says(13, "Returns how many saved states are left.");
        for (int calls = 1; calls <= 8; calls++) {
            SumBlocks y = new SumBlocks();
            for (int call = 0; call < calls; call++) {
                y.set(1, 1);
            }
            Checks.due("undo() behind " + calls, y.undo(), Math.min(calls, 6) - 1);
            Checks.due("count(12)", y.count(12), Math.min(calls, 6) - 1);
        }
        Checks.says(13, "Throws `IllegalStateException` if there is none");
        Twins.refused("undo() of a new object", STATE, y -> { }, SumBlocks::undo);
        Twins.refused("undo() behind calls that save none", STATE, y -> {
            Checks.type(y, "w1");
            y.firstError();
            Checks.outcome(() -> y.want(0));
        }, SumBlocks::undo);
        Twins.refused("undo() twice behind one", STATE, y -> {
            y.want(5);
            y.undo();
        }, SumBlocks::undo);
        Twins.refused("undo() the seventh time", STATE, y -> {
            Twins.fullBufferAndSavedStates(y);
            for (int back = 0; back < 6; back++) {
                y.undo();
            }
        }, SumBlocks::undo);
    }

    public static void main(String[] args) {
        undoableCalls();
        callsThatChangeNothing();
        whatIsNotSaved();
        whatIsCounted();
        atMostSix();
        savedAgain();
        refusedCalls();
        severalExceptions();
        undo();
        Checks.end();
    }
}
