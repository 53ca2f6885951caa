/**
 * Memory in blocks of summed sizes: a block is cut into two unlike pieces, and a piece finds its
 * partner by a count, so that both can be joined again.
 */
public final class SumBlocks {
    public static final int NONE = -1;

    private static final int FIRST_TOP = 9;
    private static final int LEAST_TOP = 3;
    private static final int HIGHEST_ORDER = 14;
    private static final int MOST_USES = 24;
    private static final int MOST_CELLS = 999;
    private static final int MOST_SAVED = 6;
    private static final int MOST_CHARACTERS = 60;
    // Free partners are always joined, so each cut block holds a use, and a use lies below at most
    // 13 cut blocks (14 down to 2): there are at most 24 * 13 cut blocks, and one block more.
    private static final int MOST_BLOCKS = 24 * 13 + 1;
    private static final int[] SIZES = {1, 2, 3, 5, 8, 13, 21, 34, 55, 89, 144, 233, 377, 610, 987};

    private static final int BLOCK_PROPERTIES = 5;
    private static final int USE_PROPERTIES = 5;
    private static final int WISH_PROPERTIES = 4;
    private static final int COUNTS = 13;
    private static final int SAVED_STATES_COUNT = 12;
    private static final int SETTINGS = 2;

    private final Memory memory = new Memory();
    private final SavedStates saved = new SavedStates();
    private final OrderText text = new OrderText();

    public SumBlocks() {
        memory.startWhole(FIRST_TOP);
    }

    // ---- memory

    public int begin(int order) throws IllegalArgumentException {
        if (order < LEAST_TOP || order > HIGHEST_ORDER) {
            throw new IllegalArgumentException("order is not 3 to 14");
        }
        saved.save(memory);
        memory.startWhole(order);
        return sizeOf(order);
    }

    public int want(int cells) throws IllegalArgumentException, IllegalStateException {
        if (!isWish(cells)) {
            throw new IllegalArgumentException("cells is not 1 to 999");
        }
        if (!memory.canGrant(cells)) {
            throw new IllegalStateException("there are 24 uses, or no free block does");
        }
        saved.save(memory);
        return memory.grant(cells);
    }

    public int give(int use) throws IllegalArgumentException {
        if (!memory.hasUse(use)) {
            throw new IllegalArgumentException("there is no such use");
        }
        saved.save(memory);
        return memory.release(use);
    }

    public int giveAll() {
        saved.save(memory);
        return memory.releaseAll();
    }

    public int grow(int use, int cells) throws IllegalArgumentException, IllegalStateException {
        if (!memory.hasUse(use) || !isWish(cells) || cells < memory.wishOf(use)) {
            throw new IllegalArgumentException("no such use, or cells is out of range or too few");
        }
        if (!memory.canEnlarge(use, cells)) {
            throw new IllegalStateException("the use cannot grow");
        }
        saved.save(memory);
        return memory.enlarge(use, cells);
    }

    public int shrink(int use, int cells) throws IllegalArgumentException {
        if (!memory.hasUse(use) || cells < 1 || cells > memory.wishOf(use)) {
            throw new IllegalArgumentException("no such use, or cells is out of range");
        }
        saved.save(memory);
        return memory.reduce(use, cells);
    }

    public int set(int setting, int value) throws IndexOutOfBoundsException, IllegalArgumentException {
        if (!isBelow(setting, SETTINGS)) {
            throw new IndexOutOfBoundsException("there is no such setting");
        }
        if (value != 0 && value != 1) {
            throw new IllegalArgumentException("value is not 0 or 1");
        }
        saved.save(memory);
        return memory.changeSetting(setting, value);
    }

    // ---- texts

    public int append(int code) throws IllegalArgumentException, IllegalStateException {
        if (code < 33 || code > 126) {
            throw new IllegalArgumentException("code is not 33 to 126");
        }
        if (text.isFull()) {
            throw new IllegalStateException("the buffer has 60 characters");
        }
        return text.add(code);
    }

    public int clearBuffer() {
        return text.empty();
    }

    public int firstError() {
        return text.errorIndex();
    }

    public int run() throws IllegalArgumentException {
        if (!text.isComplete()) {
            throw new IllegalArgumentException("the buffer is not a complete row of orders");
        }
        saved.save(memory);
        int carriedOut = 0;
        int start = 0;
        boolean goesOn = true;
        for (int step = 0; step < MOST_CHARACTERS && goesOn && start < text.length; step++) {
            goesOn = carryOut(text.codeAt(start), text.numberFrom(start + 1));
            if (goesOn) {
                carriedOut++;
            }
            start = text.startBehind(start);
        }
        text.empty();
        return carriedOut;
    }

    public int undo() throws IllegalStateException {
        if (saved.many == 0) {
            throw new IllegalStateException("there is no saved state");
        }
        return saved.restore(memory);
    }

    // ---- what there is

    public int size(int order) throws IllegalArgumentException {
        if (order < 0 || order > HIGHEST_ORDER) {
            throw new IllegalArgumentException("order is not 0 to 14");
        }
        return sizeOf(order);
    }

    public int block(int place, int what) throws IndexOutOfBoundsException, IllegalArgumentException {
        if (!memory.blocks.has(place)) {
            throw new IndexOutOfBoundsException("there are not so many blocks");
        }
        if (!isBelow(what, BLOCK_PROPERTIES)) {
            throw new IllegalArgumentException("what is not 0 to 4");
        }
        return memory.blockProperty(place, what);
    }

    public int use(int use, int what) throws IndexOutOfBoundsException, IllegalArgumentException {
        if (!isBelow(use, MOST_USES)) {
            throw new IndexOutOfBoundsException("use is not 0 to 23");
        }
        if (!isBelow(what, USE_PROPERTIES)) {
            throw new IllegalArgumentException("what is not 0 to 4");
        }
        return memory.useProperty(use, what);
    }

    public int at(int cell) throws IndexOutOfBoundsException {
        if (!isBelow(cell, sizeOf(memory.blocks.top))) {
            throw new IndexOutOfBoundsException("there is no such cell");
        }
        return memory.blocks.placeOfCell(cell);
    }

    public int many(int order, boolean isFree) throws IllegalArgumentException {
        if (order < 0 || order > HIGHEST_ORDER) {
            throw new IllegalArgumentException("order is not 0 to 14");
        }
        return memory.blocks.manyOf(order, isFree);
    }

    public int count(int what) throws IllegalArgumentException {
        if (!isBelow(what, COUNTS)) {
            throw new IllegalArgumentException("what is not 0 to 12");
        }
        return countOf(what);
    }

    public int setting(int setting) throws IndexOutOfBoundsException {
        if (!isBelow(setting, SETTINGS)) {
            throw new IndexOutOfBoundsException("there is no such setting");
        }
        return memory.settingValue(setting);
    }

    // ---- what would be; nothing is changed

    public int ifWanted(int cells, int what) throws IllegalArgumentException {
        if (!isWish(cells) || !isBelow(what, WISH_PROPERTIES)) {
            throw new IllegalArgumentException("cells is not 1 to 999, or what is not 0 to 3");
        }
        return memory.wishProperty(cells, what);
    }

    public int ifGiven(int use) throws IndexOutOfBoundsException {
        if (!isBelow(use, MOST_USES)) {
            throw new IndexOutOfBoundsException("use is not 0 to 23");
        }
        return memory.joinsIfReleased(use);
    }

    public int reach(int use) throws IndexOutOfBoundsException {
        if (!isBelow(use, MOST_USES)) {
            throw new IndexOutOfBoundsException("use is not 0 to 23");
        }
        return memory.greatestSizeFor(use);
    }

    public int blocker() {
        return memory.useInTheWay();
    }

    public int byWay(int place) throws IndexOutOfBoundsException {
        if (!memory.blocks.has(place)) {
            throw new IndexOutOfBoundsException("there are not so many blocks");
        }
        return memory.blocks.partnerByWay(place);
    }

    public double wasteShare() {
        return memory.shareOfWaste();
    }

    public long digest() {
        long hash = 2557;
        for (int what = 0; what < COUNTS; what++) {
            hash = mixed(hash, countOf(what));
        }
        for (int setting = 0; setting < SETTINGS; setting++) {
            hash = mixed(hash, memory.settingValue(setting));
        }
        hash = mixedWithBlocks(hash);
        hash = mixedWithUses(hash);
        hash = mixedWithWish(hash, 1);
        hash = mixedWithWish(hash, 7);
        hash = mixedWithWish(hash, 50);
        hash = mixed(hash, memory.useInTheWay());
        hash = mixed(hash, bitsOfShare(memory.shareOfWaste()));
        hash = mixed(hash, text.length);
        for (int index = 0; index < text.length; index++) {
            hash = mixed(hash, text.codeAt(index));
        }
        return hash;
    }

    private boolean carryOut(int letter, int number) {
        if (letter == 'w') {
            return memory.grant(number) != NONE;
        }
        return memory.release(number) != NONE;
    }

    private int countOf(int what) {
        return what == SAVED_STATES_COUNT ? saved.many : memory.countOf(what);
    }

    private long mixedWithBlocks(long start) {
        long hash = start;
        for (int place = 0; place < memory.blocks.many; place++) {
            for (int what = 0; what < BLOCK_PROPERTIES; what++) {
                hash = mixed(hash, memory.blockProperty(place, what));
            }
            hash = mixed(hash, memory.blocks.partnerByWay(place));
        }
        return hash;
    }

    private long mixedWithUses(long start) {
        long hash = start;
        for (int use = 0; use < MOST_USES; use++) {
            for (int what = 0; what < USE_PROPERTIES; what++) {
                hash = mixed(hash, memory.useProperty(use, what));
            }
            hash = mixed(hash, memory.joinsIfReleased(use));
            hash = mixed(hash, memory.greatestSizeFor(use));
        }
        return hash;
    }

    private long mixedWithWish(long start, int cells) {
        long hash = start;
        for (int what = 0; what < WISH_PROPERTIES; what++) {
            hash = mixed(hash, memory.wishProperty(cells, what));
        }
        return hash;
    }

    private static long mixed(long hash, long value) {
        return 31 * hash + value;
    }

    // The language rules leave no Double.doubleToLongBits. A share is 0, or 1/987 to below 1, so
    // doubling it ten times at most makes it 1 to below 2, and no step here rounds.
    private static long bitsOfShare(double share) {
        if (share <= 0.0) {
            return 0L;
        }
        double significand = share;
        long exponent = 1023L;
        for (int step = 0; step < 1022 && significand < 1.0; step++) {
            significand = significand * 2.0;
            exponent--;
        }
        long fraction = (long) ((significand - 1.0) * (double) (1L << 52));
        return (exponent << 52) | fraction;
    }

    private static boolean isWish(int cells) {
        return cells >= 1 && cells <= MOST_CELLS;
    }

    private static boolean isBelow(int number, int bound) {
        return number >= 0 && number < bound;
    }

    private static int sizeOf(int order) {
        return valueAt(SIZES, order);
    }

    private static int leastOrderFor(int cells) {
        for (int order = 0; order <= HIGHEST_ORDER; order++) {
            if (sizeOf(order) >= cells) {
                return order;
            }
        }
        return NONE;
    }

    private static int valueAt(int[] row, int index) {
        return index >= 0 && index < row.length ? row[index] : NONE;
    }

    private static void putAt(int[] row, int index, int value) {
        if (index >= 0 && index < row.length) {
            row[index] = value;
        }
    }

    private static void copyRow(int[] from, int[] to, int many) {
        for (int index = 0; index < many && index < from.length && index < to.length; index++) {
            to[index] = from[index];
        }
    }

    /** The blocks of the memory, by ascending addresses. */
    private static final class Blocks {
        private final int[] addresses = new int[MOST_BLOCKS];
        private final int[] orders = new int[MOST_BLOCKS];
        private final int[] counts = new int[MOST_BLOCKS];
        private final int[] owners = new int[MOST_BLOCKS];
        private int many;
        private int top;

        void startWhole(int order) {
            top = order;
            many = 1;
            put(0, 0, order, 0, NONE);
        }

        void copyFrom(Blocks other) {
            top = other.top;
            many = other.many;
            copyRow(other.addresses, addresses, many);
            copyRow(other.orders, orders, many);
            copyRow(other.counts, counts, many);
            copyRow(other.owners, owners, many);
        }

        boolean has(int place) {
            return place >= 0 && place < many;
        }

        int addressAt(int place) {
            return place >= 0 && place < addresses.length ? addresses[place] : NONE;
        }

        int orderAt(int place) {
            return place >= 0 && place < orders.length ? orders[place] : NONE;
        }

        int countAt(int place) {
            return place >= 0 && place < counts.length ? counts[place] : NONE;
        }

        int ownerAt(int place) {
            return place >= 0 && place < owners.length ? owners[place] : NONE;
        }

        boolean isFreeAt(int place) {
            return has(place) && ownerAt(place) == NONE;
        }

        void setOwner(int place, int owner) {
            putAt(owners, place, owner);
        }

        // The owner stays with the left piece, as a use that is made smaller keeps it.
        void cutAt(int place) {
            int address = addressAt(place);
            int order = orderAt(place);
            for (int index = many; index > place + 1; index--) {
                move(index - 1, index);
            }
            many++;
            put(place, address, order - 1, countAt(place) + 1, ownerAt(place));
            put(place + 1, address + sizeOf(order - 1), order - 2, 0, NONE);
        }

        void replace(Span span, int owner) {
            int gone = span.right - span.left;
            put(span.left, addressAt(span.left), span.order, span.count, owner);
            for (int index = span.right + 1; index < many; index++) {
                move(index, index - gone);
            }
            many -= gone;
        }

        int placeOfOwner(int owner) {
            for (int place = 0; place < many; place++) {
                if (ownerAt(place) == owner) {
                    return place;
                }
            }
            return NONE;
        }

        int placeOfCell(int cell) {
            int low = 0;
            int high = many - 1;
            for (int step = 0; step < MOST_BLOCKS && low < high; step++) {
                int middle = (low + high + 1) / 2;
                if (addressAt(middle) <= cell) {
                    low = middle;
                } else {
                    high = middle - 1;
                }
            }
            return low;
        }

        int placeOfBlock(int address, int order) {
            int place = placeOfCell(address);
            return addressAt(place) == address && orderAt(place) == order ? place : NONE;
        }

        // The row goes by addresses: the first block found stays, unless a less order counts more.
        int placeOfFree(int leastOrder, boolean lowestAddressFirst) {
            int best = NONE;
            for (int place = 0; place < many; place++) {
                if (!isFreeAt(place) || orderAt(place) < leastOrder) {
                    continue;
                }
                if (best == NONE || !lowestAddressFirst && orderAt(place) < orderAt(best)) {
                    best = place;
                }
            }
            return best;
        }

        int manyOf(int order, boolean isFree) {
            int found = 0;
            for (int place = 0; place < many; place++) {
                if (orderAt(place) == order && isFreeAt(place) == isFree) {
                    found++;
                }
            }
            return found;
        }

        int manyFree() {
            int found = 0;
            for (int place = 0; place < many; place++) {
                if (isFreeAt(place)) {
                    found++;
                }
            }
            return found;
        }

        int freeCells() {
            int cells = 0;
            for (int place = 0; place < many; place++) {
                if (isFreeAt(place)) {
                    cells += sizeOf(orderAt(place));
                }
            }
            return cells;
        }

        int greatestFreeOrder() {
            int greatest = NONE;
            for (int place = 0; place < many; place++) {
                if (isFreeAt(place) && orderAt(place) > greatest) {
                    greatest = orderAt(place);
                }
            }
            return greatest;
        }

        int partnerByWay(int place) {
            int address = addressAt(place);
            int order = orderAt(place);
            int pieceAddress = 0;
            int pieceOrder = top;
            int otherAddress = NONE;
            int otherOrder = NONE;
            while (pieceOrder >= 2 && (pieceOrder != order || pieceAddress != address)) {
                int middle = pieceAddress + sizeOf(pieceOrder - 1);
                if (address < middle) {
                    otherAddress = middle;
                    otherOrder = pieceOrder - 2;
                    pieceOrder = pieceOrder - 1;
                } else {
                    otherAddress = pieceAddress;
                    otherOrder = pieceOrder - 1;
                    pieceAddress = middle;
                    pieceOrder = pieceOrder - 2;
                }
            }
            return otherOrder == NONE ? NONE : placeOfBlock(otherAddress, otherOrder);
        }

        private void put(int place, int address, int order, int count, int owner) {
            putAt(addresses, place, address);
            putAt(orders, place, order);
            putAt(counts, place, count);
            putAt(owners, place, owner);
        }

        private void move(int from, int to) {
            putAt(addresses, to, valueAt(addresses, from));
            putAt(orders, to, valueAt(orders, from));
            putAt(counts, to, valueAt(counts, from));
            putAt(owners, to, valueAt(owners, from));
        }
    }

    /** What a block would be when it is joined on: it stands for the places from left to right. */
    private static final class Span {
        private int left;
        private int right;
        private int order;
        private int count;
        private int joins;

        void startAt(Blocks blocks, int place) {
            left = place;
            right = place;
            order = blocks.orderAt(place);
            count = blocks.countAt(place);
            joins = 0;
        }

        int partnerPlace(Blocks blocks) {
            boolean isBehind = count > 0;
            int place = isBehind ? right + 1 : left - 1;
            if (order == blocks.top || !blocks.has(place)) {
                return NONE;
            }
            int dueOrder = isBehind ? order - 1 : order + 1;
            boolean isOtherSide = blocks.countAt(place) > 0 != isBehind;
            return blocks.orderAt(place) == dueOrder && isOtherSide ? place : NONE;
        }

        boolean join(Blocks blocks) {
            int partner = partnerPlace(blocks);
            if (!blocks.isFreeAt(partner)) {
                return false;
            }
            if (partner < left) {
                left = partner;
                order = blocks.orderAt(partner);
                count = blocks.countAt(partner);
            } else {
                right = partner;
            }
            order++;
            count--;
            joins++;
            return true;
        }

        // A block with the count 0 has its partner ahead of it.
        boolean joinBehind(Blocks blocks) {
            return count > 0 && join(blocks);
        }

        void joinAll(Blocks blocks) {
            boolean goesOn = true;
            for (int step = 0; step < HIGHEST_ORDER && goesOn; step++) {
                goesOn = join(blocks);
            }
        }
    }

    /** All that undo() brings back: the blocks, the uses, the settings, and what is counted. */
    private static final class Memory {
        private final Blocks blocks = new Blocks();
        private final Span span = new Span();
        // The cells that each use wished for, 0 where there is no such use.
        private final int[] wishes = new int[MOST_USES];
        private final int[] settings = new int[SETTINGS];
        private int cuts;
        private int joins;
        private int granted;

        void startWhole(int order) {
            blocks.startWhole(order);
            for (int use = 0; use < MOST_USES; use++) {
                putAt(wishes, use, 0);
            }
        }

        void copyFrom(Memory other) {
            blocks.copyFrom(other.blocks);
            copyRow(other.wishes, wishes, MOST_USES);
            copyRow(other.settings, settings, SETTINGS);
            cuts = other.cuts;
            joins = other.joins;
            granted = other.granted;
        }

        boolean hasUse(int use) {
            return wishOf(use) > 0;
        }

        int wishOf(int use) {
            return valueAt(wishes, use);
        }

        int settingValue(int setting) {
            return valueAt(settings, setting);
        }

        int changeSetting(int setting, int value) {
            int previous = settingValue(setting);
            putAt(settings, setting, value);
            return previous;
        }

        boolean canGrant(int cells) {
            return numberForNewUse() != NONE && placeFor(leastOrderFor(cells)) != NONE;
        }

        /** Answers NONE, and changes nothing, if the wish can't be granted. */
        int grant(int cells) {
            int use = numberForNewUse();
            int least = leastOrderFor(cells);
            int place = placeFor(least);
            if (use == NONE || place == NONE) {
                return NONE;
            }
            int order = blocks.orderAt(place);
            for (int step = 0; step < HIGHEST_ORDER && isCutFor(order, least); step++) {
                cutAt(place);
                if (goesRight(order, least)) {
                    place = place + 1;
                    order = order - 2;
                } else {
                    order = order - 1;
                }
            }
            blocks.setOwner(place, use);
            putAt(wishes, use, cells);
            granted++;
            return use;
        }

        /** Answers how often blocks are joined; NONE, and changes nothing, without such a use. */
        int release(int use) {
            if (!hasUse(use)) {
                return NONE;
            }
            span.startAt(blocks, blocks.placeOfOwner(use));
            span.joinAll(blocks);
            replaceBySpan(NONE);
            putAt(wishes, use, 0);
            return span.joins;
        }

        int releaseAll() {
            int released = 0;
            for (int use = 0; use < MOST_USES; use++) {
                if (release(use) != NONE) {
                    released++;
                }
            }
            return released;
        }

        boolean canEnlarge(int use, int cells) {
            span.startAt(blocks, blocks.placeOfOwner(use));
            boolean goesOn = true;
            for (int step = 0; step < HIGHEST_ORDER && goesOn; step++) {
                goesOn = sizeOf(span.order) < cells && span.joinBehind(blocks);
            }
            return sizeOf(span.order) >= cells;
        }

        int enlarge(int use, int cells) {
            if (canEnlarge(use, cells)) {
                replaceBySpan(use);
                putAt(wishes, use, cells);
            }
            return span.order;
        }

        int reduce(int use, int cells) {
            int place = blocks.placeOfOwner(use);
            int order = blocks.orderAt(place);
            int least = leastOrderFor(cells);
            for (int step = 0; step < HIGHEST_ORDER && isCutFor(order, least); step++) {
                cutAt(place);
                order = order - 1;
            }
            putAt(wishes, use, cells);
            return order;
        }

        int blockProperty(int place, int what) {
            switch (what) {
                case 0:
                    return blocks.addressAt(place);
                case 1:
                    return blocks.orderAt(place);
                case 2:
                    return blocks.countAt(place);
                case 3:
                    return blocks.ownerAt(place);
                default:
                    span.startAt(blocks, place);
                    return span.partnerPlace(blocks);
            }
        }

        int useProperty(int use, int what) {
            if (!hasUse(use)) {
                return NONE;
            }
            int place = blocks.placeOfOwner(use);
            switch (what) {
                case 0:
                    return place;
                case 1:
                    return wishOf(use);
                case 2:
                    return sizeOf(blocks.orderAt(place)) - wishOf(use);
                case 3:
                    return blocks.orderAt(place);
                default:
                    return blocks.addressAt(place);
            }
        }

        int countOf(int what) {
            switch (what) {
                case 0:
                    return sizeOf(blocks.top);
                case 1:
                    return blocks.top;
                case 2:
                    return blocks.many;
                case 3:
                    return blocks.manyFree();
                case 4:
                    return manyUses();
                case 5:
                    return blocks.freeCells();
                case 6:
                    return wishedCells();
                case 7:
                    return usedCells() - wishedCells();
                case 8:
                    return cuts;
                case 9:
                    return joins;
                case 10:
                    return granted;
                default:
                    return blocks.greatestFreeOrder();
            }
        }

        int wishProperty(int cells, int what) {
            int least = leastOrderFor(cells);
            int place = placeFor(least);
            if (place == NONE) {
                return NONE;
            }
            int address = blocks.addressAt(place);
            int order = blocks.orderAt(place);
            int newCuts = 0;
            for (int step = 0; step < HIGHEST_ORDER && isCutFor(order, least); step++) {
                newCuts++;
                if (goesRight(order, least)) {
                    address = address + sizeOf(order - 1);
                    order = order - 2;
                } else {
                    order = order - 1;
                }
            }
            switch (what) {
                case 0:
                    return address;
                case 1:
                    return order;
                case 2:
                    return newCuts;
                default:
                    return sizeOf(order) - cells;
            }
        }

        int joinsIfReleased(int use) {
            if (!hasUse(use)) {
                return NONE;
            }
            span.startAt(blocks, blocks.placeOfOwner(use));
            span.joinAll(blocks);
            return span.joins;
        }

        int greatestSizeFor(int use) {
            if (!hasUse(use)) {
                return NONE;
            }
            span.startAt(blocks, blocks.placeOfOwner(use));
            boolean goesOn = true;
            for (int step = 0; step < HIGHEST_ORDER && goesOn; step++) {
                goesOn = span.joinBehind(blocks);
            }
            return sizeOf(span.order);
        }

        int useInTheWay() {
            int best = NONE;
            int bestOrder = NONE;
            int orderAnyway = blocks.greatestFreeOrder();
            for (int use = 0; use < MOST_USES; use++) {
                if (!hasUse(use)) {
                    continue;
                }
                span.startAt(blocks, blocks.placeOfOwner(use));
                span.joinAll(blocks);
                int order = Math.max(orderAnyway, span.order);
                if (order > bestOrder) {
                    best = use;
                    bestOrder = order;
                }
            }
            return best;
        }

        double shareOfWaste() {
            int used = usedCells();
            return used == 0 ? 0.0 : (double) (used - wishedCells()) / (double) used;
        }

        private int numberForNewUse() {
            for (int use = 0; use < MOST_USES; use++) {
                if (!hasUse(use)) {
                    return use;
                }
            }
            return NONE;
        }

        private int placeFor(int leastOrder) {
            return leastOrder == NONE ? NONE : blocks.placeOfFree(leastOrder, settingValue(0) == 1);
        }

        private boolean isCutFor(int order, int leastOrder) {
            return order >= 2 && order - 1 >= leastOrder;
        }

        private boolean goesRight(int order, int leastOrder) {
            return settingValue(1) == 0 && order - 2 >= leastOrder;
        }

        private void cutAt(int place) {
            blocks.cutAt(place);
            cuts++;
        }

        private void replaceBySpan(int owner) {
            blocks.replace(span, owner);
            joins += span.joins;
        }

        private int manyUses() {
            int found = 0;
            for (int use = 0; use < MOST_USES; use++) {
                if (hasUse(use)) {
                    found++;
                }
            }
            return found;
        }

        private int wishedCells() {
            int cells = 0;
            for (int use = 0; use < MOST_USES; use++) {
                cells += wishOf(use);
            }
            return cells;
        }

        private int usedCells() {
            return sizeOf(blocks.top) - blocks.freeCells();
        }
    }

    /** The states for undo(), in a ring, as the oldest one is dropped first. */
    private static final class SavedStates {
        private final Memory[] states = new Memory[MOST_SAVED];
        private int next;
        private int many;

        SavedStates() {
            for (int slot = 0; slot < states.length; slot++) {
                states[slot] = new Memory();
            }
        }

        void save(Memory memory) {
            Memory state = stateAt(next);
            if (state != null) {
                state.copyFrom(memory);
            }
            next = (next + 1) % MOST_SAVED;
            many = Math.min(many + 1, MOST_SAVED);
        }

        int restore(Memory memory) {
            next = (next + MOST_SAVED - 1) % MOST_SAVED;
            many = Math.max(many - 1, 0);
            Memory state = stateAt(next);
            if (state != null) {
                memory.copyFrom(state);
            }
            return many;
        }

        private Memory stateAt(int slot) {
            return isBelow(slot, states.length) ? states[slot] : null;
        }
    }

    /** The buffer, and how its characters are read as orders. */
    private static final class OrderText {
        private static final int AT_START = 0;
        private static final int BEHIND_W = 1;
        private static final int BEHIND_ONE_DIGIT = 2;
        private static final int BEHIND_TWO_DIGITS = 3;
        private static final int BEHIND_G = 4;
        private static final int BEHIND_G_AND_1 = 5;
        private static final int BEHIND_G_AND_2 = 6;
        private static final int BEHIND_FULL_NUMBER = 7;
        private static final int WRONG = 8;

        private final int[] codes = new int[MOST_CHARACTERS];
        private int length;

        boolean isFull() {
            return length >= MOST_CHARACTERS;
        }

        int add(int code) {
            putAt(codes, length, code);
            length++;
            return length;
        }

        int empty() {
            int previous = length;
            length = 0;
            return previous;
        }

        int codeAt(int index) {
            return valueAt(codes, index);
        }

        int errorIndex() {
            int state = AT_START;
            for (int index = 0; index < length; index++) {
                state = stateBehind(state, codeAt(index));
                if (state == WRONG) {
                    return index;
                }
            }
            return length;
        }

        boolean isComplete() {
            int state = AT_START;
            for (int index = 0; index < length; index++) {
                state = stateBehind(state, codeAt(index));
            }
            return mayEnd(state);
        }

        int numberFrom(int start) {
            int number = 0;
            for (int index = start; index < length && isDigit(codeAt(index)); index++) {
                number = number * 10 + codeAt(index) - '0';
            }
            return number;
        }

        int startBehind(int start) {
            for (int index = start; index < length; index++) {
                if (codeAt(index) == ';') {
                    return index + 1;
                }
            }
            return length;
        }

        private static int stateBehind(int state, int code) {
            if (code == ';') {
                return mayEnd(state) ? AT_START : WRONG;
            }
            if (state == AT_START) {
                return code == 'w' ? BEHIND_W : code == 'g' ? BEHIND_G : WRONG;
            }
            return isDigit(code) ? stateBehindDigit(state, code - '0') : WRONG;
        }

        private static int stateBehindDigit(int state, int digit) {
            switch (state) {
                case BEHIND_W:
                    return digit > 0 ? BEHIND_ONE_DIGIT : WRONG;
                case BEHIND_ONE_DIGIT:
                    return BEHIND_TWO_DIGITS;
                case BEHIND_TWO_DIGITS:
                case BEHIND_G_AND_1:
                    return BEHIND_FULL_NUMBER;
                case BEHIND_G_AND_2:
                    return digit <= 3 ? BEHIND_FULL_NUMBER : WRONG;
                case BEHIND_G:
                    return digit == 1 ? BEHIND_G_AND_1
                            : digit == 2 ? BEHIND_G_AND_2 : BEHIND_FULL_NUMBER;
                default:
                    return WRONG;
            }
        }

        private static boolean mayEnd(int state) {
            return state != AT_START && state != BEHIND_W && state != BEHIND_G && state != WRONG;
        }

        private static boolean isDigit(int code) {
            return code >= '0' && code <= '9';
        }
    }
}
