import java.util.ArrayList;
import java.util.List;

/**
 * The document told a second time, without care for speed: balances are not kept but counted
 * from all fundings and all instructions that ever settled, as the general rules say.
 */
final class Model {
    private static final class Instruction {
        int slot;
        int seller;
        int buyer;
        int security;
        int quantity;
        int amount;
        long sequence;
        int attempts = 0;
        int status = DvpSettler.QUEUED;
        int settledCycle = -1;
    }

    private record Funding(int p, int s, int amount) { }

    private static final int CASH = -1;

    private final int participants;
    private final int securities;
    private final int capacity;
    private final int maxRecycles;
    private final List<Funding> fundings = new ArrayList<>();
    private final List<Instruction> everSettled = new ArrayList<>();
    private final Instruction[] slots;
    private final List<Integer> removedIds = new ArrayList<>();
    private long accepted = 0;
    private int cycles = 0;

    Model(int participants, int securities, int capacity, int maxRecycles) {
        this.participants = Math.max(2, Math.min(8, participants));
        this.securities = Math.max(1, Math.min(4, securities));
        this.capacity = Math.max(8, Math.min(64, capacity));
        this.maxRecycles = Math.max(1, Math.min(8, maxRecycles));
        this.slots = new Instruction[this.capacity];
    }

    boolean fundCash(int p, int amount) {
        if (!isParticipant(p) || !isFunding(amount) || totalCash() + (long) amount > DvpSettler.MAX_TOTAL) {
            return false;
        }
        return fundings.add(new Funding(p, CASH, amount));
    }

    boolean fundSecurity(int p, int s, int quantity) {
        if (!isParticipant(p) || !isSecurity(s) || !isFunding(quantity)
                || totalHolding(s) + (long) quantity > DvpSettler.MAX_TOTAL) {
            return false;
        }
        return fundings.add(new Funding(p, s, quantity));
    }

    int submit(int parties, int security, int quantity, int amount) {
        if (parties < 0 || parties > 255 || !isParticipant(parties >> 4) || !isParticipant(parties & 15)
                || parties >> 4 == (parties & 15) || !isSecurity(security) || !isFunding(quantity)
                || amount != 0 && !isFunding(amount)) {
            return -1;
        }
        for (int id = 0; id < capacity; id++) {
            if (slots[id] == null) {
                Instruction i = new Instruction();
                i.slot = id;
                i.seller = parties >> 4;
                i.buyer = parties & 15;
                i.security = security;
                i.quantity = quantity;
                i.amount = amount;
                i.sequence = accepted++;
                slots[id] = i;
                return id;
            }
        }
        return -1;
    }

    boolean cancel(int id) {
        if (status(id) != DvpSettler.QUEUED) {
            return false;
        }
        slots[id].status = DvpSettler.CANCELLED;
        return true;
    }

    boolean settleNow(int id) {
        if (status(id) != DvpSettler.QUEUED) {
            return false;
        }
        Instruction i = slots[id];
        if (holding(i.seller, i.security) < i.quantity || cash(i.buyer) < i.amount) {
            return false;
        }
        settle(i, 0);
        return true;
    }

    int cycle() {
        cycles++;
        List<Instruction> batch = new ArrayList<>();
        for (Instruction i : slots) {
            if (i != null && i.status == DvpSettler.QUEUED) {
                batch.add(i);
            }
        }
        List<Instruction> removed = new ArrayList<>();
        removedIds.clear();
        for (int d = mostShort(batch); d >= 0; d = mostShort(batch)) {
            Instruction out = null;
            for (Instruction i : batch) {
                boolean forCash = i.buyer == d && i.amount > 0 && net(batch, d, CASH) < 0;
                boolean forSecurity = i.seller == d && net(batch, d, i.security) < 0;
                if ((forCash || forSecurity) && (out == null || i.sequence > out.sequence)) {
                    out = i;
                }
            }
            batch.remove(out);
            removed.add(out);
            removedIds.add(out.slot);
        }
        for (Instruction i : batch) {
            settle(i, cycles);
        }
        for (Instruction i : removed) {
            i.attempts++;
            if (i.attempts >= maxRecycles) {
                i.status = DvpSettler.FAILED;
            }
        }
        return batch.size();
    }

    int clearDone() {
        int freed = 0;
        for (int id = 0; id < capacity; id++) {
            int status = status(id);
            if (status == DvpSettler.SETTLED || status == DvpSettler.CANCELLED || status == DvpSettler.FAILED) {
                slots[id] = null;
                freed++;
            }
        }
        return freed;
    }

    int cash(int p) {
        return isParticipant(p) ? (int) balance(p, CASH) : -1;
    }

    int holding(int p, int s) {
        return isParticipant(p) && isSecurity(s) ? (int) balance(p, s) : -1;
    }

    int totalCash() {
        return funded(CASH);
    }

    int totalHolding(int s) {
        return isSecurity(s) ? funded(s) : -1;
    }

    int status(int id) {
        if (id < 0 || id >= capacity) {
            return -1;
        }
        return slots[id] == null ? DvpSettler.EMPTY : slots[id].status;
    }

    int attempts(int id) {
        return status(id) <= DvpSettler.EMPTY ? -1 : slots[id].attempts;
    }

    int settledCycle(int id) {
        return status(id) == DvpSettler.SETTLED ? slots[id].settledCycle : -1;
    }

    int removedAt(int k) {
        return k >= 0 && k < removedIds.size() ? removedIds.get(k) : -1;
    }

    int cycleCount() {
        return cycles;
    }

    private void settle(Instruction i, int cycle) {
        i.status = DvpSettler.SETTLED;
        i.settledCycle = cycle;
        everSettled.add(i);
    }

    private int mostShort(List<Instruction> batch) {
        int most = -1;
        long largest = 0;
        for (int p = participants - 1; p >= 0; p--) {
            long deficit = 0;
            for (int kind = CASH; kind < securities; kind++) {
                deficit += Math.max(0, -net(batch, p, kind));
            }
            if (deficit > 0 && deficit >= largest) {
                largest = deficit;
                most = p;
            }
        }
        return most;
    }

    private long net(List<Instruction> batch, int p, int kind) {
        return balance(p, kind) + moved(batch, p, kind);
    }

    private long balance(int p, int kind) {
        long sum = moved(everSettled, p, kind);
        for (Funding f : fundings) {
            sum += f.p() == p && f.s() == kind ? f.amount() : 0;
        }
        return sum;
    }

    private static long moved(List<Instruction> instructions, int p, int kind) {
        long sum = 0;
        for (Instruction i : instructions) {
            if (kind == CASH) {
                sum += i.seller == p ? i.amount : 0;
                sum -= i.buyer == p ? i.amount : 0;
            } else if (kind == i.security) {
                sum += i.buyer == p ? i.quantity : 0;
                sum -= i.seller == p ? i.quantity : 0;
            }
        }
        return sum;
    }

    private int funded(int kind) {
        int sum = 0;
        for (Funding f : fundings) {
            sum += f.s() == kind ? f.amount() : 0;
        }
        return sum;
    }

    private boolean isParticipant(int p) {
        return p >= 0 && p < participants;
    }

    private boolean isSecurity(int s) {
        return s >= 0 && s < securities;
    }

    private static boolean isFunding(int amount) {
        return amount >= 1 && amount <= DvpSettler.MAX_AMOUNT;
    }
}
