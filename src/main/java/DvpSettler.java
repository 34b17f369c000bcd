public final class DvpSettler {
    public static final int EMPTY = 0;
    public static final int QUEUED = 1;
    public static final int SETTLED = 2;
    public static final int CANCELLED = 3;
    public static final int FAILED = 4;
    public static final int MAX_AMOUNT = 1000000;
    public static final int MAX_TOTAL = 100000000;

    private static final int MIN_PARTICIPANTS = 2;
    private static final int MAX_PARTICIPANTS = 8;
    private static final int MIN_SECURITIES = 1;
    private static final int MAX_SECURITIES = 4;
    private static final int MAX_HOLDINGS = MAX_PARTICIPANTS * MAX_SECURITIES;
    private static final int MIN_CAPACITY = 8;
    private static final int MAX_CAPACITY = 64;
    private static final int MIN_RECYCLES = 1;
    private static final int MAX_RECYCLES = 8;
    private static final int PARTIES_BASE = 16;
    private static final int MAX_PARTIES = 255;
    private static final int NONE = -1;

    private final int participantCount;
    private final int securityCount;
    private final int slotCount;
    private final int recycleLimit;

    private final int[] cashOf = new int[MAX_PARTICIPANTS];
    private final int[] holdingOf = new int[MAX_HOLDINGS];

    private final int[] statusOf = new int[MAX_CAPACITY];
    private final int[] sellerOf = new int[MAX_CAPACITY];
    private final int[] buyerOf = new int[MAX_CAPACITY];
    private final int[] securityOf = new int[MAX_CAPACITY];
    private final int[] quantityOf = new int[MAX_CAPACITY];
    private final int[] amountOf = new int[MAX_CAPACITY];
    private final int[] attemptsOf = new int[MAX_CAPACITY];
    private final int[] settledCycleOf = new int[MAX_CAPACITY];
    private final long[] sequenceOf = new long[MAX_CAPACITY];

    // Working space of a cycle: arrays may only be made at the start.
    private final boolean[] inBatch = new boolean[MAX_CAPACITY];
    private final int[] netCash = new int[MAX_PARTICIPANTS];
    private final int[] netHolding = new int[MAX_HOLDINGS];

    private final int[] removedIds = new int[MAX_CAPACITY];
    private int removedCount = 0;

    // A long, because the order of sequence numbers must hold however often slots are used again.
    private long nextSequence = 0L;
    private int cyclesRun = 0;

    public DvpSettler(int participants, int securities, int capacity, int maxRecycles) {
        participantCount = clamp(participants, MIN_PARTICIPANTS, MAX_PARTICIPANTS);
        securityCount = clamp(securities, MIN_SECURITIES, MAX_SECURITIES);
        slotCount = clamp(capacity, MIN_CAPACITY, MAX_CAPACITY);
        recycleLimit = clamp(maxRecycles, MIN_RECYCLES, MAX_RECYCLES);
    }

    public boolean fundCash(int p, int amount) {
        if (!isParticipant(p) || !isWithin(amount, 1, MAX_AMOUNT)) {
            return false;
        }
        if (totalCash() + amount > MAX_TOTAL) {
            return false;
        }
        cashOf[p] += amount;
        return true;
    }

    public boolean fundSecurity(int p, int s, int quantity) {
        if (!isParticipant(p) || !isSecurity(s) || !isWithin(quantity, 1, MAX_AMOUNT)) {
            return false;
        }
        if (totalHolding(s) + quantity > MAX_TOTAL) {
            return false;
        }
        holdingOf[holdingIndex(p, s)] += quantity;
        return true;
    }

    public int submit(int parties, int security, int quantity, int amount) {
        if (!isPair(parties) || !isSecurity(security)) {
            return NONE;
        }
        if (!isWithin(quantity, 1, MAX_AMOUNT) || !isWithin(amount, 0, MAX_AMOUNT)) {
            return NONE;
        }
        int id = lowestEmptySlot();
        if (id == NONE) {
            return NONE;
        }
        statusOf[id] = QUEUED;
        sellerOf[id] = parties / PARTIES_BASE;
        buyerOf[id] = parties % PARTIES_BASE;
        securityOf[id] = security;
        quantityOf[id] = quantity;
        amountOf[id] = amount;
        attemptsOf[id] = 0;
        settledCycleOf[id] = NONE;
        sequenceOf[id] = nextSequence;
        nextSequence++;
        return id;
    }

    public boolean cancel(int id) {
        if (!isQueued(id)) {
            return false;
        }
        statusOf[id] = CANCELLED;
        return true;
    }

    public boolean settleNow(int id) {
        if (!isQueued(id)) {
            return false;
        }
        int seller = sellerOf[id];
        int buyer = buyerOf[id];
        int delivered = holdingIndex(seller, securityOf[id]);
        int received = holdingIndex(buyer, securityOf[id]);
        if (holdingOf[delivered] < quantityOf[id] || cashOf[buyer] < amountOf[id]) {
            return false;
        }
        holdingOf[delivered] -= quantityOf[id];
        holdingOf[received] += quantityOf[id];
        cashOf[buyer] -= amountOf[id];
        cashOf[seller] += amountOf[id];
        statusOf[id] = SETTLED;
        settledCycleOf[id] = 0;
        return true;
    }

    public int cycle() {
        cyclesRun++;
        removedCount = 0;
        gatherBatch();
        removeUntilCovered();
        takeNetsAsBalances();
        int settled = markBatchSettled();
        recycleRemoved();
        return settled;
    }

    public int clearDone() {
        int freed = 0;
        for (int id = 0; id < slotCount; id++) {
            if (statusOf[id] != EMPTY && statusOf[id] != QUEUED) {
                // The rest of an EMPTY slot is never read: submit writes it all anew.
                statusOf[id] = EMPTY;
                freed++;
            }
        }
        return freed;
    }

    public int cash(int p) {
        return isParticipant(p) ? cashOf[p] : NONE;
    }

    public int holding(int p, int s) {
        return isParticipant(p) && isSecurity(s) ? holdingOf[holdingIndex(p, s)] : NONE;
    }

    public int totalCash() {
        int total = 0;
        for (int p = 0; p < participantCount; p++) {
            total += cashOf[p];
        }
        return total;
    }

    public int totalHolding(int s) {
        if (!isSecurity(s)) {
            return NONE;
        }
        int total = 0;
        for (int p = 0; p < participantCount; p++) {
            total += holdingOf[holdingIndex(p, s)];
        }
        return total;
    }

    public int status(int id) {
        return isSlot(id) ? statusOf[id] : NONE;
    }

    public int attempts(int id) {
        return isSlot(id) && statusOf[id] != EMPTY ? attemptsOf[id] : NONE;
    }

    public int settledCycle(int id) {
        return isSlot(id) && statusOf[id] == SETTLED ? settledCycleOf[id] : NONE;
    }

    public int removedAt(int k) {
        return k >= 0 && k < removedCount ? removedIds[k] : NONE;
    }

    public int cycleCount() {
        return cyclesRun;
    }

    private static int clamp(int value, int least, int greatest) {
        if (value < least) {
            return least;
        }
        return value > greatest ? greatest : value;
    }

    private static boolean isWithin(int value, int least, int greatest) {
        return value >= least && value <= greatest;
    }

    private static int holdingIndex(int p, int s) {
        return p * MAX_SECURITIES + s;
    }

    private boolean isParticipant(int p) {
        return p >= 0 && p < participantCount;
    }

    private boolean isSecurity(int s) {
        return s >= 0 && s < securityCount;
    }

    private boolean isSlot(int id) {
        return id >= 0 && id < slotCount;
    }

    private boolean isQueued(int id) {
        return isSlot(id) && statusOf[id] == QUEUED;
    }

    private boolean isPair(int parties) {
        if (!isWithin(parties, 0, MAX_PARTIES)) {
            return false;
        }
        int seller = parties / PARTIES_BASE;
        int buyer = parties % PARTIES_BASE;
        return isParticipant(seller) && isParticipant(buyer) && seller != buyer;
    }

    private int lowestEmptySlot() {
        for (int id = 0; id < slotCount; id++) {
            if (statusOf[id] == EMPTY) {
                return id;
            }
        }
        return NONE;
    }

    private void gatherBatch() {
        for (int id = 0; id < slotCount; id++) {
            inBatch[id] = statusOf[id] == QUEUED;
        }
    }

    private void removeUntilCovered() {
        // Each round but the last takes one slot out of the batch, and an empty batch is covered:
        // one round more than there are slots always reaches the end.
        for (int round = 0; round <= slotCount; round++) {
            computeNets();
            int debtor = largestDebtor();
            if (debtor == NONE) {
                return;
            }
            int id = latestRemovable(debtor);
            removeFromBatch(id);
        }
    }

    private void computeNets() {
        for (int p = 0; p < MAX_PARTICIPANTS; p++) {
            netCash[p] = cashOf[p];
        }
        for (int h = 0; h < MAX_HOLDINGS; h++) {
            netHolding[h] = holdingOf[h];
        }
        for (int id = 0; id < slotCount; id++) {
            if (inBatch[id]) {
                addToNets(id);
            }
        }
    }

    private void addToNets(int id) {
        netCash[sellerOf[id]] += amountOf[id];
        netCash[buyerOf[id]] -= amountOf[id];
        netHolding[holdingIndex(sellerOf[id], securityOf[id])] -= quantityOf[id];
        netHolding[holdingIndex(buyerOf[id], securityOf[id])] += quantityOf[id];
    }

    private int largestDebtor() {
        int debtor = NONE;
        int largest = 0;
        for (int p = 0; p < participantCount; p++) {
            int deficit = deficitOf(p);
            // Strictly larger, so that the lowest number wins a tie.
            if (deficit > largest) {
                largest = deficit;
                debtor = p;
            }
        }
        return debtor;
    }

    private int deficitOf(int p) {
        int deficit = shortfall(netCash[p]);
        for (int s = 0; s < securityCount; s++) {
            int net = netHolding[holdingIndex(p, s)];
            deficit += shortfall(net);
        }
        return deficit;
    }

    private static int shortfall(int net) {
        return net < 0 ? -net : 0;
    }

    private int latestRemovable(int debtor) {
        int latest = NONE;
        for (int id = 0; id < slotCount; id++) {
            if (inBatch[id] && isRemovable(id, debtor)) {
                if (latest == NONE || sequenceOf[id] > sequenceOf[latest]) {
                    latest = id;
                }
            }
        }
        return latest;
    }

    private boolean isRemovable(int id, int debtor) {
        if (buyerOf[id] == debtor) {
            return amountOf[id] > 0 && netCash[debtor] < 0;
        }
        return sellerOf[id] == debtor && netHolding[holdingIndex(debtor, securityOf[id])] < 0;
    }

    private void removeFromBatch(int id) {
        // Balances are never negative, so a debtor always has an instruction to remove, and no slot
        // is removed twice: the look only keeps both indexes plainly within their arrays.
        if (id == NONE || removedCount >= MAX_CAPACITY) {
            return;
        }
        inBatch[id] = false;
        removedIds[removedCount] = id;
        removedCount++;
    }

    private void takeNetsAsBalances() {
        for (int p = 0; p < MAX_PARTICIPANTS; p++) {
            cashOf[p] = netCash[p];
        }
        for (int h = 0; h < MAX_HOLDINGS; h++) {
            holdingOf[h] = netHolding[h];
        }
    }

    private int markBatchSettled() {
        int settled = 0;
        for (int id = 0; id < slotCount; id++) {
            if (inBatch[id]) {
                statusOf[id] = SETTLED;
                settledCycleOf[id] = cyclesRun;
                settled++;
            }
        }
        return settled;
    }

    private void recycleRemoved() {
        for (int k = 0; k < removedCount; k++) {
            int id = removedIds[k];
            attemptsOf[id]++;
            if (attemptsOf[id] >= recycleLimit) {
                statusOf[id] = FAILED;
            }
        }
    }
}
