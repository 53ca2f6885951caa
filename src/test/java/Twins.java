import java.util.ArrayList;
import java.util.List;

/**
 * Two objects made by the same calls, of which one gets a call more that must change nothing: all
 * that can be seen of them has to be alike, also what each undo() brings back.
 */
final class Twins {
    interface Making {
        void make(SumBlocks x);
    }

    interface Asking {
        long answer(SumBlocks x);
    }

    /** Empty and full: memory, uses, saved states, and buffer. */
    static final List<Making> STATES = new ArrayList<>();

    static {
        STATES.add(x -> { });
        STATES.add(Twins::someUses);
        STATES.add(Twins::allUses);
        STATES.add(Twins::fullMemory);
        STATES.add(Twins::fullBufferAndSavedStates);
        STATES.add(Twins::undone);
    }

    private Twins() {
    }

    /** Blocks: 0/4/1/2 8/1/2/- 10/0/0/1 11/1/0/0. */
    static void someUses(SumBlocks x) {
        x.begin(5);
        x.want(1);
        x.want(1);
        x.want(6);
        Checks.type(x, "w1;g");
    }

    /** 24 uses, and free blocks. */
    static void allUses(SumBlocks x) {
        x.begin(14);
        for (int use = 0; use < 24; use++) {
            x.want(1);
        }
    }

    /** One use of all cells. */
    static void fullMemory(SumBlocks x) {
        x.begin(3);
        x.want(5);
        Checks.type(x, "w1;x");
    }

    /** 60 characters, and six saved states behind two that are dropped. */
    static void fullBufferAndSavedStates(SumBlocks x) {
        x.want(4);
        x.want(10);
        x.set(1, 1);
        x.shrink(1, 7);
        x.want(1);
        x.give(0);
        x.set(0, 1);
        x.want(2);
        Checks.type(x, "w1;g0;".repeat(10));
    }

    /** Saved states in the midst of the room for them. */
    static void undone(SumBlocks x) {
        fullBufferAndSavedStates(x);
        x.clearBuffer();
        x.undo();
        x.undo();
        x.undo();
        x.want(3);
        Checks.type(x, "g1");
    }

    /** Numbers outside of a range: next to it, and far off. */
    static int[] outside(int least, int greatest) {
        return new int[] {least - 1, greatest + 1, least - 2, greatest + 2, least - 256, greatest + 256,
            greatest + 65536, Integer.MIN_VALUE, Integer.MIN_VALUE + 1, Integer.MAX_VALUE - 1,
            Integer.MAX_VALUE};
    }

    static void refusedInEachState(String call, Class<?> due, Asking refused) {
        for (Making state : STATES) {
            refused(call, due, state, refused);
        }
    }

    /** The call throws this very class, and nothing is changed. */
    static void refused(String call, Class<?> due, Making state, Asking refused) {
        SumBlocks x = made(state);
        Checks.due(call, Checks.outcome(() -> refused.answer(x)), due.getSimpleName());
        Checks.due("what there is behind the refused " + call, story(x), story(made(state)));
    }

    static void quietInEachState(String call, Asking asked) {
        for (Making state : STATES) {
            SumBlocks x = made(state);
            Checks.outcome(() -> asked.answer(x));
            Checks.due("what there is behind " + call, story(x), story(made(state)));
        }
    }

    /** The saved states tell in one more, and all else is as it was. */
    static void savesOne(String call, Making state, Making undoable) {
        SumBlocks x = made(state);
        SumBlocks before = made(state);
        undoable.make(x);
        Checks.due("count(12) behind " + call, x.count(12), Math.min(6, before.count(12) + 1));
        Checks.due("undo() behind " + call, x.undo(), Math.min(5, before.count(12)));
        Checks.due("what there is behind undo() of " + call, seen(x), seen(before));
    }

    static SumBlocks made(Making state) {
        SumBlocks x = new SumBlocks();
        state.make(x);
        return x;
    }

    /** All but the saved states and the buffer. */
    static String seen(SumBlocks x) {
        StringBuilder seen = new StringBuilder(Checks.blocks(x));
        for (int what = 0; what < 12; what++) {
            seen.append(' ').append(x.count(what));
        }
        for (int use = 0; use < 24; use++) {
            seen.append(' ').append(x.use(use, 1));
        }
        return seen.append(' ').append(x.setting(0)).append(x.setting(1)).toString();
    }

    /** What is seen now, and behind each undo(); the object is used up by it. */
    static String story(SumBlocks x) {
        StringBuilder story = new StringBuilder(Checks.blocks(x)).append('\n').append(x.digest());
        String left = Checks.outcome(x::undo);
        for (int step = 0; step < 8 && !left.equals("IllegalStateException"); step++) {
            story.append('\n').append(left).append(' ').append(x.digest());
            left = Checks.outcome(x::undo);
        }
        return story.append('\n').append(left).toString();
    }
}
