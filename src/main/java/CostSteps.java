/** What boards cost by quantity; README.md tells how to use it, the document what each call promises. */
public final class CostSteps {
    public static final int NONE = -1;

    private static final int MAX_PARTS = 30;
    private static final int MAKERS = 8;
    private static final int KINDS = 8;
    private static final int MAX_YIELDS = 8;
    private static final int LIST_SIZE = 6;

    private static final int TOOLING_ROW = 0;
    private static final int BOARDS_ROW = 1;
    private static final int ASSEMBLY_ROW = 2;
    private static final int FIRST_PART_ROW = 3;
    private static final int MAX_ROWS = FIRST_PART_ROW + MAX_PARTS;

    // Boards have steps just as parts do, so they are one more thing to buy, behind the last part.
    private static final int BOARDS = MAX_PARTS;
    private static final int THINGS = MAX_PARTS + 1;

    private static final long MAX_QUANTITY = 1_000_000L;
    private static final long MAX_PIECES = 1_000_000_000L;
    private static final long MAX_STEP_CENTS = 100_000L;
    private static final long MAX_A_BOARD = 1_000L;
    private static final long MAX_ASSEMBLY_CENTS = 1_000_000L;
    private static final long MAX_TOOLING_CENTS = 1_000_000_000L;
    private static final long MAX_RATIO_NUMBER = 1_000L;
    private static final long PLACINGS_A_PRICE = 1_000L;
    private static final long DAY_BEHIND_ALL = Long.MAX_VALUE;

    private final long[] usedOnBoard = new long[MAX_PARTS];
    private final long[] inStock = new long[MAX_PARTS];
    // One bit for each part that may stand in: 30 parts fit in an int.
    private final int[] alternates = new int[MAX_PARTS];
    private final long[] assemblyCents = new long[KINDS];
    private final long[] placedOnBoard = new long[KINDS];
    private final Steps steps = new Steps();
    private final Rates rates = new Rates();
    private final Yields yields = new Yields();
    private int partCount = 0;
    private long toolingCents = 0;

    // Three quotes change places, so that no call makes a new one. A quote never drawn has no rows.
    private Quote draft = new Quote();
    private Quote latest = new Quote();
    private Quote before = new Quote();

    public CostSteps() {
    }

    public int part() {
        if (partCount >= MAX_PARTS) {
            return NONE;
        }
        int number = partCount;
        partCount++;
        return number;
    }

    public boolean price(int part, int maker, long from, long cents)
            throws IndexOutOfBoundsException, IllegalArgumentException {
        needIndex(part, partCount);
        needIndex(maker, MAKERS);
        needStep(from, cents);
        return steps.tell(part, maker, from, cents);
    }

    public boolean uses(int part, long n) throws IndexOutOfBoundsException, IllegalArgumentException {
        needIndex(part, partCount);
        needNumber(n, 0, MAX_A_BOARD);
        return tellNumber(usedOnBoard, part, n);
    }

    public boolean board(int maker, long from, long cents)
            throws IndexOutOfBoundsException, IllegalArgumentException {
        needIndex(maker, MAKERS);
        needStep(from, cents);
        return steps.tell(BOARDS, maker, from, cents);
    }

    public boolean assembly(int kind, long cents) throws IndexOutOfBoundsException, IllegalArgumentException {
        needIndex(kind, KINDS);
        needNumber(cents, 0, MAX_ASSEMBLY_CENTS);
        return tellNumber(assemblyCents, kind, cents);
    }

    public boolean placed(int kind, long n) throws IndexOutOfBoundsException, IllegalArgumentException {
        needIndex(kind, KINDS);
        needNumber(n, 0, MAX_A_BOARD);
        return tellNumber(placedOnBoard, kind, n);
    }

    public boolean yieldOf(long above, long below) throws IllegalArgumentException {
        needRatio(above, below);
        needNumber(above, 1, below);
        return yields.add(above, below);
    }

    public boolean currency(int maker, long day, long above, long below)
            throws IndexOutOfBoundsException, IllegalArgumentException {
        needIndex(maker, MAKERS);
        needRatio(above, below);
        return rates.tell(maker, day, above, below);
    }

    public boolean tooling(long cents) throws IllegalArgumentException {
        needNumber(cents, 0, MAX_TOOLING_CENTS);
        boolean otherwise = toolingCents != cents;
        toolingCents = cents;
        return otherwise;
    }

    public boolean stock(int part, long n) throws IndexOutOfBoundsException, IllegalArgumentException {
        needIndex(part, partCount);
        needNumber(n, 0, MAX_PIECES);
        return tellNumber(inStock, part, n);
    }

    public long total(long quantity, int maker, long day)
            throws IndexOutOfBoundsException, IllegalArgumentException {
        needIndex(maker, MAKERS);
        needNumber(quantity, 0, MAX_QUANTITY);
        if (!draw(quantity, maker, day)) {
            return NONE;
        }
        keepDraft();
        return latest.sum();
    }

    public int best(long quantity, long day) throws IllegalArgumentException {
        needNumber(quantity, 0, MAX_QUANTITY);
        long started = yields.startedFor(quantity);
        if (!drawAllButBoards(started, day)) {
            return NONE;
        }
        int bestMaker = NONE;
        long leastSum = 0;
        int fewestMakers = 0;
        for (int maker = 0; maker < MAKERS; maker++) {
            if (!drawBoards(started, maker)) {
                continue;
            }
            long sum = draft.sum();
            int makers = draft.makersBoughtOf();
            boolean better = sum < leastSum || (sum == leastSum && makers < fewestMakers);
            if (bestMaker == NONE || better) {
                bestMaker = maker;
                leastSum = sum;
                fewestMakers = makers;
            }
        }
        return bestMaker;
    }

    public long each(long quantity, int maker, long day, int part2)
            throws IndexOutOfBoundsException, IllegalArgumentException {
        needIndex(maker, MAKERS);
        needIndex(part2, 2);
        needNumber(quantity, 1, MAX_QUANTITY);
        if (!draw(quantity, maker, day)) {
            return NONE;
        }
        return part2 == 0 ? draft.sum() / quantity : draft.sum() % quantity;
    }

    public int suppliers(long quantity, int maker) throws IndexOutOfBoundsException, IllegalArgumentException {
        needIndex(maker, MAKERS);
        needNumber(quantity, 0, MAX_QUANTITY);
        if (!draw(quantity, maker, DAY_BEHIND_ALL)) {
            return NONE;
        }
        return draft.makersBoughtOf();
    }

    public boolean alternate(int part, int other) throws IndexOutOfBoundsException {
        needIndex(part, partCount);
        needIndex(other, partCount);
        if (mayStandIn(other, part)) {
            return false;
        }
        alternates[part] |= 1 << other;
        return true;
    }

    public int changed(int k) {
        if (k < 0) {
            return NONE;
        }
        int left = k;
        for (int row = 0; row < latest.rowCount; row++) {
            if (latest.costs[row] == before.costs[row]) {
                continue;
            }
            if (left == 0) {
                return row;
            }
            left--;
        }
        return NONE;
    }

    public int row(int k, int what) throws IndexOutOfBoundsException {
        needIndex(k, latest.rowCount);
        needIndex(what, 3);
        if (what == 0) {
            return latest.pieces[k];
        }
        return what == 1 ? latest.makers[k] : latest.parts[k];
    }

    private static void needIndex(int index, int count) {
        if (index < 0 || index >= count) {
            throw new IndexOutOfBoundsException("there is no such part, maker, kind or row");
        }
    }

    private static void needNumber(long n, long least, long most) {
        if (n < least || n > most) {
            throw new IllegalArgumentException("a number is outside its limits");
        }
    }

    private static void needStep(long from, long cents) {
        needNumber(from, 1, MAX_PIECES);
        needNumber(cents, 1, MAX_STEP_CENTS);
    }

    private static void needRatio(long above, long below) {
        needNumber(above, 1, MAX_RATIO_NUMBER);
        needNumber(below, 1, MAX_RATIO_NUMBER);
    }

    /** Sets a number that a need...() has let through; whether it was otherwise. */
    private static boolean tellNumber(long[] numbers, int at, long n) {
        boolean otherwise = numbers[at] != n;
        numbers[at] = n;
        return otherwise;
    }

    /** Rounds up; the largest amount here is some 10 to the 18th, so the sum stays within a long. */
    private static long divideUp(long amount, long divisor) {
        if (divisor <= 0) {
            return 0;
        }
        return (amount + divisor - 1) / divisor;
    }

    private boolean mayStandIn(int other, int part) {
        return other == part || (alternates[part] & (1 << other)) != 0;
    }

    /** Draws a whole quote as the draft; false, when it can't be. */
    private boolean draw(long quantity, int maker, long day) {
        long started = yields.startedFor(quantity);
        return drawAllButBoards(started, day) && drawBoards(started, maker);
    }

    /** The rows that are the same for every maker of boards, so that best() draws them once. */
    private boolean drawAllButBoards(long started, long day) {
        draft.begin(FIRST_PART_ROW + partCount);
        if (started > MAX_PIECES) {
            return false;
        }
        rates.turnTo(day);
        draft.costs[TOOLING_ROW] = toolingCents;
        draft.costs[ASSEMBLY_ROW] = assemblyCost(started);
        for (int part = 0; part < partCount; part++) {
            if (!drawPart(part, started)) {
                return false;
            }
        }
        return true;
    }

    private boolean drawBoards(long started, int maker) {
        draft.clearRow(BOARDS_ROW);
        if (started <= 0) {
            return true;
        }
        offerSteps(BOARDS_ROW, started, BOARDS, maker);
        return draft.isBought(BOARDS_ROW);
    }

    private boolean drawPart(int part, long started) {
        long needed = started * usedOnBoard[part] - inStock[part];
        if (needed <= 0) {
            return true;
        }
        if (needed > MAX_PIECES) {
            return false;
        }
        int row = FIRST_PART_ROW + part;
        for (int other = 0; other < partCount; other++) {
            if (!mayStandIn(other, part)) {
                continue;
            }
            for (int maker = 0; maker < MAKERS; maker++) {
                offerSteps(row, needed, other, maker);
            }
        }
        return draft.isBought(row);
    }

    /** Lets every step that a maker has for a thing compete for a row of the draft. */
    private void offerSteps(int row, long needed, int thing, int maker) {
        int part = thing == BOARDS ? NONE : thing;
        int end = steps.endSlot(thing, maker);
        for (int slot = steps.firstSlot(thing, maker); slot < end; slot++) {
            long pieces = Math.max(needed, steps.fromAt(slot));
            long cost = rates.exchange(maker, pieces * steps.cents[slot]);
            draft.consider(row, cost, part, maker, (int) pieces);
        }
    }

    private long assemblyCost(long started) {
        long sum = 0;
        for (int kind = 0; kind < KINDS; kind++) {
            sum += divideUp(started * placedOnBoard[kind] * assemblyCents[kind], PLACINGS_A_PRICE);
        }
        return sum;
    }

    private void keepDraft() {
        Quote oldest = before;
        before = latest;
        latest = draft;
        draft = oldest;
    }

    /** Lists of up to six keys; a key's slot is also where its values stand in the arrays of who holds the lists. */
    private static final class KeyLists {
        private final long[] keys;
        private final int[] sizes;

        private KeyLists(int lists) {
            int count = Math.max(lists, 0);
            keys = new long[count * LIST_SIZE];
            sizes = new int[count];
        }

        private int firstSlot(int list) {
            return list * LIST_SIZE;
        }

        private int endSlot(int list) {
            return list * LIST_SIZE + sizes[list];
        }

        /** The slot of a key, a fresh one when it is new; NONE, when six others fill the list. */
        private int slotFor(int list, long key) {
            int end = endSlot(list);
            for (int slot = firstSlot(list); slot < end; slot++) {
                if (keys[slot] == key) {
                    return slot;
                }
            }
            if (sizes[list] >= LIST_SIZE) {
                return NONE;
            }
            keys[end] = key;
            sizes[list]++;
            return end;
        }
    }

    /** Makers' steps of prices for each thing: the parts, and the boards. */
    private static final class Steps {
        private final KeyLists froms = new KeyLists(THINGS * MAKERS);
        private final long[] cents = new long[THINGS * MAKERS * LIST_SIZE];

        private int firstSlot(int thing, int maker) {
            return froms.firstSlot(thing * MAKERS + maker);
        }

        private int endSlot(int thing, int maker) {
            return froms.endSlot(thing * MAKERS + maker);
        }

        private long fromAt(int slot) {
            return froms.keys[slot];
        }

        private boolean tell(int thing, int maker, long from, long price) {
            int slot = froms.slotFor(thing * MAKERS + maker, from);
            // A fresh slot holds 0, which is no price, so a new step always counts as a change.
            return slot != NONE && tellNumber(cents, slot, price);
        }
    }

    /** Makers' rates by days, and those of the day that is looked at. */
    private static final class Rates {
        private final KeyLists days = new KeyLists(MAKERS);
        private final long[] aboves = new long[MAKERS * LIST_SIZE];
        private final long[] belows = new long[MAKERS * LIST_SIZE];
        private final long[] aboveNow = new long[MAKERS];
        private final long[] belowNow = new long[MAKERS];

        private boolean tell(int maker, long day, long above, long below) {
            int slot = days.slotFor(maker, day);
            if (slot == NONE) {
                return false;
            }
            boolean otherAbove = tellNumber(aboves, slot, above);
            boolean otherBelow = tellNumber(belows, slot, below);
            return otherAbove || otherBelow;
        }

        /** Looks the rates up once for a whole quote, not again for each of its many steps. */
        private void turnTo(long day) {
            for (int maker = 0; maker < MAKERS; maker++) {
                int slot = latestSlot(maker, day);
                aboveNow[maker] = slot == NONE ? 1 : aboves[slot];
                belowNow[maker] = slot == NONE ? 1 : belows[slot];
            }
        }

        private int latestSlot(int maker, long day) {
            int found = NONE;
            int end = days.endSlot(maker);
            for (int slot = days.firstSlot(maker); slot < end; slot++) {
                long told = days.keys[slot];
                if (told <= day && (found == NONE || told > days.keys[found])) {
                    found = slot;
                }
            }
            return found;
        }

        private long exchange(int maker, long amount) {
            return divideUp(amount * aboveNow[maker], belowNow[maker]);
        }
    }

    /** The yields in the order in which they were told. */
    private static final class Yields {
        private final long[] aboves = new long[MAX_YIELDS];
        private final long[] belows = new long[MAX_YIELDS];
        private int count = 0;

        private boolean add(long above, long below) {
            if (count >= MAX_YIELDS) {
                return false;
            }
            aboves[count] = above;
            belows[count] = below;
            count++;
            return true;
        }

        /** How many boards to start; more than MAX_PIECES, when it can't be. */
        private long startedFor(long quantity) {
            long boards = quantity;
            // It ends at the limit, because eight yields of 1 / 1,000 would go beyond a long.
            for (int i = count - 1; i >= 0 && boards <= MAX_PIECES; i--) {
                boards = divideUp(boards * belows[i], aboves[i]);
            }
            return boards;
        }
    }

    /** The rows of one total: what each costs, and what was bought for it. */
    private static final class Quote {
        private final long[] costs = new long[MAX_ROWS];
        private final int[] pieces = new int[MAX_ROWS];
        private final int[] makers = new int[MAX_ROWS];
        private final int[] parts = new int[MAX_ROWS];
        private int rowCount = 0;

        private void begin(int rows) {
            rowCount = rows;
            for (int row = 0; row < MAX_ROWS; row++) {
                clearRow(row);
            }
        }

        private void clearRow(int row) {
            costs[row] = 0;
            pieces[row] = 0;
            makers[row] = NONE;
            parts[row] = NONE;
        }

        private boolean isBought(int row) {
            return makers[row] != NONE;
        }

        private void consider(int row, long cost, int part, int maker, int count) {
            if (isBought(row) && !isBetter(row, cost, part, maker, count)) {
                return;
            }
            costs[row] = cost;
            pieces[row] = count;
            makers[row] = maker;
            parts[row] = part;
        }

        private boolean isBetter(int row, long cost, int part, int maker, int count) {
            if (cost != costs[row]) {
                return cost < costs[row];
            }
            if (part != parts[row]) {
                return part < parts[row];
            }
            if (maker != makers[row]) {
                return maker < makers[row];
            }
            return count < pieces[row];
        }

        private long sum() {
            long sum = 0;
            for (int row = 0; row < rowCount; row++) {
                sum += costs[row];
            }
            return sum;
        }

        private int makersBoughtOf() {
            int seen = 0;
            for (int row = 0; row < rowCount; row++) {
                if (isBought(row)) {
                    seen |= 1 << makers[row];
                }
            }
            return Integer.bitCount(seen);
        }
    }
}
