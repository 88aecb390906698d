import java.util.Arrays;

/** A node of a ledger whose blocks may have several parents; the document tells what each call answers. */
public final class BlockMesh {
    private static final int NONE = -1;
    private static final int GENESIS = 0;

    private static final int MOST_TRANSACTIONS = 40;
    private static final int MOST_INPUTS = 2;
    private static final int MOST_OUTPUTS = 2;
    private static final int MOST_AMOUNT = 1000;

    private static final int MOST_BLOCKS = 60;
    private static final int MOST_PARENTS = 4;
    private static final int MOST_INCLUDED = 3;
    private static final int NONCES_TRIED = 40;
    private static final int HASH_BITS = 0x7fffffff;
    private static final int WORK_BOUND = 536870912;

    private static final int MOST_POOLED = 8;
    private static final int MOST_ORPHANS = 4;
    private static final int FIRST_REWARD = 64;
    private static final int SCORES_PER_HALVING = 8;

    /** The source number of block 0; lesser ones are transactions. */
    private static final int BLOCK_SOURCES = 100;
    /** Every output has a slot: two for each transaction, then one for each block. */
    private static final int BLOCK_SLOTS = MOST_TRANSACTIONS * MOST_OUTPUTS;
    private static final int SLOTS = BLOCK_SLOTS + MOST_BLOCKS;

    private final Transactions transactions;
    private final Blocks blocks;
    private final BlockPlan plan;
    private final BlockPlan templatePlan;
    private final Dag dag;
    private final Numbers orphans;
    private final Ledger ledger;
    private final Numbers pooled;
    /** The ledger as it would be behind the pool's transactions. */
    private final Ledger ahead;

    public BlockMesh(int k) {
        transactions = new Transactions();
        blocks = new Blocks();
        plan = new BlockPlan();
        templatePlan = new BlockPlan();
        dag = new Dag(blocks, (k & 255) % 5);
        orphans = new Numbers(MOST_ORPHANS);
        ledger = new Ledger(transactions, blocks);
        pooled = new Numbers(MOST_POOLED);
        ahead = new Ledger(transactions, blocks);
        dag.attach(GENESIS);
        followDag();
    }

    public boolean input(int source, int output, int secret) {
        int slot = slotOf(source, output);
        if (slot == NONE || !isSource(source)) {
            return false;
        }
        return transactions.putInput(slot, fingerprintOf(source), output, secret);
    }

    public boolean output(int secret, int amount) {
        if (amount < 0 || amount > MOST_AMOUNT) {
            return false;
        }
        return transactions.putOutput(lockFor(secret), amount);
    }

    public int transaction() {
        return transactions.finish();
    }

    public boolean parent(int block) {
        return blocks.has(block) && plan.parents.addNew(block);
    }

    public boolean include(int transaction) {
        return transactions.has(transaction) && plan.included.addNew(transaction);
    }

    public int make(int secret, int nonce) {
        if (plan.parents.size == 0 || blocks.isFull()) {
            return NONE;
        }
        int made = blocks.build(plan, transactions, lockFor(secret), nonce);
        plan.forget();
        return made;
    }

    public void clear() {
        transactions.forgetDraft();
        plan.forget();
    }

    public int template(int secret, int nonce) {
        if (blocks.isFull()) {
            return NONE;
        }
        templatePlan.forget();
        long left = dag.tips;
        for (int i = 0; i < MOST_PARENTS && left != 0; i++) {
            int tip = dag.heaviest(left);
            templatePlan.parents.addNew(tip);
            left &= ~bit(tip);
        }
        for (int i = 0; i < MOST_INCLUDED && i < pooled.size; i++) {
            templatePlan.included.addNew(pooled.at(i));
        }
        return blocks.build(templatePlan, transactions, lockFor(secret), nonce);
    }

    public int receive(int block) {
        if (!blocks.has(block)) {
            return -1;
        }
        if (!blocks.isWorked(block)) {
            return -2;
        }
        if (dag.has(block) || orphans.has(block)) {
            return -3;
        }
        if (!dag.hasParentsOf(block)) {
            keepOrphan(block);
            return 1;
        }
        if (dag.parentsOverlap(block)) {
            return -4;
        }
        dag.attach(block);
        attachOrphans();
        followDag();
        return 0;
    }

    public int submit(int transaction) {
        if (!transactions.has(transaction)) {
            return -1;
        }
        if (ahead.hasAccepted(transaction)) {
            return -2;
        }
        if (ahead.feeOf(transaction) == NONE) {
            return -3;
        }
        if (!pooled.addNew(transaction)) {
            return -4;
        }
        ahead.accept(transaction);
        return 0;
    }

    public int block(int block, int what) {
        if (!blocks.has(block)) {
            return NONE;
        }
        if (what == 0) {
            return standingOf(block);
        }
        if (what == 5) {
            return blocks.hashes[block];
        }
        if (!dag.has(block)) {
            return NONE;
        }
        switch (what) {
            case 1:
                return dag.scores[block];
            case 2:
                return dag.selected[block];
            case 3:
                return dag.placeOf(block);
            case 4:
                return Long.bitCount(dag.mergedBy(block));
            default:
                return NONE;
        }
    }

    public int order(int place) {
        return place >= 0 && place < dag.size() ? dag.sequence[place] : NONE;
    }

    public int unspent(int source, int output) {
        int slot = slotOf(source, output);
        return slot == NONE ? NONE : ledger.amounts[slot];
    }

    public int pool(int k) {
        return pooled.at(k);
    }

    public int wanted(int k) {
        long missing = missingParents();
        int before = 0;
        for (int b = 0; b < MOST_BLOCKS; b++) {
            if (!holds(missing, b)) {
                continue;
            }
            if (before == k) {
                return b;
            }
            before++;
        }
        return NONE;
    }

    public int parentOf(int block, int k) {
        if (!blocks.has(block) || k < 0 || k >= blocks.parentCounts[block]) {
            return NONE;
        }
        return blocks.parentAt(block, k);
    }

    public int count(int what) {
        switch (what) {
            case 0:
                return transactions.made;
            case 1:
                return blocks.made;
            case 2:
                return dag.size();
            case 3:
                return Long.bitCount(dag.tips);
            case 4:
                return orphans.size;
            case 5:
                return pooled.size;
            case 6:
                return Long.bitCount(ledger.accepted);
            case 7:
                return dag.scores[Dag.VIRTUAL];
            case 8:
                return dag.selected[Dag.VIRTUAL];
            case 9:
                return transactions.lastId();
            default:
                return NONE;
        }
    }

    public int total() {
        return ledger.sum();
    }

    private boolean isSource(int source) {
        return source < BLOCK_SOURCES ? transactions.has(source) : blocks.has(source - BLOCK_SOURCES);
    }

    /** The ID or HASH of a source that is there. */
    private int fingerprintOf(int source) {
        return source < BLOCK_SOURCES ? transactions.ids[source] : blocks.hashes[source - BLOCK_SOURCES];
    }

    private int standingOf(int block) {
        if (orphans.has(block)) {
            return 3;
        }
        if (!dag.has(block)) {
            return 0;
        }
        return dag.isBlue(block) ? 2 : 1;
    }

    private void keepOrphan(int block) {
        if (orphans.isFull()) {
            orphans.removeAt(0);
        }
        orphans.addNew(block);
    }

    private void attachOrphans() {
        for (int turn = 0; turn < MOST_ORPHANS; turn++) {
            int place = readyOrphan();
            if (place == NONE) {
                return;
            }
            int block = orphans.at(place);
            orphans.removeAt(place);
            if (!dag.parentsOverlap(block)) {
                dag.attach(block);
            }
        }
    }

    /** Where the orphan with the least number waits whose parents are all in the DAG. */
    private int readyOrphan() {
        int ready = NONE;
        for (int i = 0; i < orphans.size; i++) {
            int block = orphans.at(i);
            if (dag.hasParentsOf(block) && (ready == NONE || block < orphans.at(ready))) {
                ready = i;
            }
        }
        return ready;
    }

    /** The blocks that orphans wait for. */
    private long missingParents() {
        long parents = 0;
        long known = dag.members;
        for (int i = 0; i < orphans.size; i++) {
            parents |= blocks.parentSet(orphans.at(i));
            known |= bit(orphans.at(i));
        }
        return parents & ~known;
    }

    /** Brings the order, the ledger and the pool up to what the DAG has now. */
    private void followDag() {
        dag.settleVirtual();
        ledger.replay(dag);
        ahead.copyFrom(ledger);
        int waiting = pooled.size;
        int place = 0;
        for (int turn = 0; turn < waiting; turn++) {
            if (ahead.accept(pooled.at(place)) == NONE) {
                pooled.removeAt(place);
            } else {
                place++;
            }
        }
    }

    private static int mix(int a, int b) {
        int t = a * 668265263 + b;
        return t ^ t >>> 13;
    }

    private static int lockFor(int secret) {
        return mix(7, secret);
    }

    private static long bit(int number) {
        return 1L << number;
    }

    private static boolean holds(long set, int number) {
        return (set >>> number & 1L) != 0;
    }

    /** The slot of an output that some source may have, made or not; NONE if none ever has it. */
    private static int slotOf(int source, int output) {
        if (source >= 0 && source < MOST_TRANSACTIONS && output >= 0 && output < MOST_OUTPUTS) {
            return source * MOST_OUTPUTS + output;
        }
        if (source >= BLOCK_SOURCES && source < BLOCK_SOURCES + MOST_BLOCKS && output == 0) {
            return BLOCK_SLOTS + source - BLOCK_SOURCES;
        }
        return NONE;
    }

    /** A short row of different numbers in the order in which they came. */
    private static final class Numbers {
        private final int[] held;
        private int size;

        Numbers(int most) {
            held = new int[most];
        }

        boolean isFull() {
            return size == held.length;
        }

        boolean has(int number) {
            for (int i = 0; i < size; i++) {
                if (held[i] == number) {
                    return true;
                }
            }
            return false;
        }

        boolean addNew(int number) {
            if (isFull() || has(number)) {
                return false;
            }
            held[size] = number;
            size++;
            return true;
        }

        int at(int place) {
            return place >= 0 && place < size ? held[place] : NONE;
        }

        void removeAt(int place) {
            if (place < 0 || place >= size) {
                return;
            }
            size--;
            for (int i = place; i < size; i++) {
                held[i] = held[i + 1];
            }
        }
    }

    /** What a block that is not made yet shall have. */
    private static final class BlockPlan {
        private final Numbers parents = new Numbers(MOST_PARENTS);
        private final Numbers included = new Numbers(MOST_INCLUDED);

        void forget() {
            parents.size = 0;
            included.size = 0;
        }
    }

    /** The transactions that were made; the row behind them is the one that is being made. */
    private static final class Transactions {
        private static final int ROWS = MOST_TRANSACTIONS + 1;

        private int made;
        private final int[] ids = new int[ROWS];
        private final int[] inputCounts = new int[ROWS];
        private final int[] inputSlots = new int[ROWS * MOST_INPUTS];
        private final int[] inputFingerprints = new int[ROWS * MOST_INPUTS];
        private final int[] inputOutputs = new int[ROWS * MOST_INPUTS];
        private final int[] inputSecrets = new int[ROWS * MOST_INPUTS];
        /** The locks that the inputs' secrets open. */
        private final int[] inputLocks = new int[ROWS * MOST_INPUTS];
        private final int[] outputCounts = new int[ROWS];
        private final int[] outputLocks = new int[ROWS * MOST_OUTPUTS];
        private final int[] outputAmounts = new int[ROWS * MOST_OUTPUTS];

        boolean has(int transaction) {
            return transaction >= 0 && transaction < made;
        }

        int lastId() {
            return made == 0 ? 0 : ids[made - 1];
        }

        boolean putInput(int slot, int fingerprint, int output, int secret) {
            if (inputCounts[made] == MOST_INPUTS) {
                return false;
            }
            int at = made * MOST_INPUTS + inputCounts[made];
            inputSlots[at] = slot;
            inputFingerprints[at] = fingerprint;
            inputOutputs[at] = output;
            inputSecrets[at] = secret;
            inputLocks[at] = lockFor(secret);
            inputCounts[made]++;
            return true;
        }

        boolean putOutput(int lock, int amount) {
            if (outputCounts[made] == MOST_OUTPUTS) {
                return false;
            }
            int at = made * MOST_OUTPUTS + outputCounts[made];
            outputLocks[at] = lock;
            outputAmounts[at] = amount;
            outputCounts[made]++;
            return true;
        }

        void forgetDraft() {
            inputCounts[made] = 0;
            outputCounts[made] = 0;
        }

        int finish() {
            if (made == MOST_TRANSACTIONS || inputCounts[made] == 0 || outputCounts[made] == 0) {
                return NONE;
            }
            ids[made] = draftId();
            made++;
            return made - 1;
        }

        private int draftId() {
            int x = 11;
            int firstInput = made * MOST_INPUTS;
            for (int at = firstInput; at < firstInput + inputCounts[made]; at++) {
                x = mix(mix(mix(x, inputFingerprints[at]), inputOutputs[at]), inputSecrets[at]);
            }
            int firstOutput = made * MOST_OUTPUTS;
            for (int at = firstOutput; at < firstOutput + outputCounts[made]; at++) {
                x = mix(mix(x, outputLocks[at]), outputAmounts[at]);
            }
            return x;
        }

        int outputSum(int transaction) {
            int sum = 0;
            int first = transaction * MOST_OUTPUTS;
            for (int at = first; at < first + outputCounts[transaction]; at++) {
                sum += outputAmounts[at];
            }
            return sum;
        }
    }

    /** The blocks that were made, known to the node or not; a set of them is the bits of a long. */
    private static final class Blocks {
        private int made;
        private final int[] parentCounts = new int[MOST_BLOCKS];
        private final int[] parents = new int[MOST_BLOCKS * MOST_PARENTS];
        private final int[] includedCounts = new int[MOST_BLOCKS];
        private final int[] included = new int[MOST_BLOCKS * MOST_INCLUDED];
        private final int[] locks = new int[MOST_BLOCKS];
        private final int[] hashes = new int[MOST_BLOCKS];

        Blocks() {
            hashes[GENESIS] = mix(mix(13, 0), 0) & HASH_BITS;
            made = 1;
        }

        boolean has(int block) {
            return block >= 0 && block < made;
        }

        boolean isFull() {
            return made == MOST_BLOCKS;
        }

        boolean isWorked(int block) {
            return block == GENESIS || hashes[block] < WORK_BOUND;
        }

        boolean isEarlier(int one, int other) {
            return hashes[one] != hashes[other] ? hashes[one] < hashes[other] : one < other;
        }

        int parentAt(int block, int k) {
            return parents[block * MOST_PARENTS + k];
        }

        int includedAt(int block, int k) {
            return included[block * MOST_INCLUDED + k];
        }

        long parentSet(int block) {
            long set = 0;
            for (int k = 0; k < parentCounts[block]; k++) {
                set |= bit(parentAt(block, k));
            }
            return set;
        }

        /** Makes the block of a plan; there must be room for it. */
        int build(BlockPlan plan, Transactions transactions, int lock, int nonce) {
            int block = made;
            int x = 13;
            for (int k = 0; k < plan.parents.size; k++) {
                int parent = plan.parents.at(k);
                parents[block * MOST_PARENTS + k] = parent;
                x = mix(x, hashes[parent]);
            }
            for (int k = 0; k < plan.included.size; k++) {
                int transaction = plan.included.at(k);
                included[block * MOST_INCLUDED + k] = transaction;
                x = mix(x, transactions.ids[transaction]);
            }
            parentCounts[block] = plan.parents.size;
            includedCounts[block] = plan.included.size;
            locks[block] = lock;
            hashes[block] = workedHash(mix(x, lock), nonce);
            made++;
            return block;
        }

        /** The first hash that is right, of the nonces that are tried, or the last one's. */
        private static int workedHash(int x, int nonce) {
            int hash = WORK_BOUND;
            for (int i = 0; i < NONCES_TRIED && hash >= WORK_BOUND; i++) {
                hash = mix(x, nonce + i) & HASH_BITS;
            }
            return hash;
        }
    }

    /** The blocks whose past is known, and what follows from it for each and for the virtual block. */
    private static final class Dag {
        private static final int VIRTUAL = MOST_BLOCKS;

        private final Blocks blocks;
        private final int k;
        private long members;
        private long tips;
        private final long[] past = new long[MOST_BLOCKS + 1];
        private final long[] future = new long[MOST_BLOCKS];
        private final long[] blues = new long[MOST_BLOCKS + 1];
        private final int[] scores = new int[MOST_BLOCKS + 1];
        private final int[] selected = new int[MOST_BLOCKS + 1];
        /** The virtual block's ORDER. */
        private final int[] sequence = new int[MOST_BLOCKS];
        private final int[] sorted = new int[MOST_BLOCKS];

        Dag(Blocks blocks, int k) {
            this.blocks = blocks;
            this.k = k;
        }

        int size() {
            return Long.bitCount(members);
        }

        boolean has(int block) {
            return holds(members, block);
        }

        boolean hasParentsOf(int block) {
            return (blocks.parentSet(block) & ~members) == 0;
        }

        /** Whether one of a block's parents, which are all here, is in the past of another. */
        boolean parentsOverlap(int block) {
            long parents = blocks.parentSet(block);
            return (parents & pastOf(parents)) != 0;
        }

        boolean isBlue(int block) {
            return holds(blues[VIRTUAL], block);
        }

        int placeOf(int block) {
            for (int place = 0; place < size(); place++) {
                if (sequence[place] == block) {
                    return place;
                }
            }
            return NONE;
        }

        /** The block with the greatest score, of several the earliest. */
        int heaviest(long set) {
            int best = NONE;
            for (int b = 0; b < blocks.made; b++) {
                if (holds(set, b) && (best == NONE || isHeavier(b, best))) {
                    best = b;
                }
            }
            return best;
        }

        long mergedBy(int row) {
            int trunk = selected[row];
            return trunk == NONE ? 0 : past[row] & ~past[trunk] & ~bit(trunk);
        }

        void attach(int block) {
            long parents = blocks.parentSet(block);
            settle(block, parents);
            for (int b = 0; b < blocks.made; b++) {
                if (holds(past[block], b)) {
                    future[b] |= bit(block);
                }
            }
            members |= bit(block);
            tips = tips & ~parents | bit(block);
        }

        void settleVirtual() {
            settle(VIRTUAL, tips);
            int end = size();
            int row = VIRTUAL;
            // From the last place on, for the chain of selected blocks is known from its end.
            for (int step = 0; step < MOST_BLOCKS && row != GENESIS; step++) {
                int count = sortByScore(mergedBy(row));
                end -= count;
                System.arraycopy(sorted, 0, sequence, end, count);
                end--;
                row = selected[row];
                sequence[end] = row;
            }
        }

        private void settle(int row, long parents) {
            int trunk = heaviest(parents);
            selected[row] = trunk;
            if (trunk == NONE) {
                return;
            }
            past[row] = parents | pastOf(parents);
            long blue = blues[trunk] | bit(trunk);
            int count = sortByScore(mergedBy(row));
            for (int i = 0; i < count; i++) {
                if (fits(sorted[i], blue)) {
                    blue |= bit(sorted[i]);
                }
            }
            blues[row] = blue;
            scores[row] = Long.bitCount(blue);
        }

        /** Whether no block has more than k others in its anticone when this one joins the blue ones. */
        private boolean fits(int block, long blue) {
            long rivals = blue & anticone(block);
            if (Long.bitCount(rivals) > k) {
                return false;
            }
            for (int b = 0; b < blocks.made; b++) {
                if (holds(rivals, b) && Long.bitCount(blue & anticone(b)) >= k) {
                    return false;
                }
            }
            return true;
        }

        private long anticone(int block) {
            return members & ~past[block] & ~future[block] & ~bit(block);
        }

        private long pastOf(long set) {
            long all = 0;
            for (int b = 0; b < blocks.made; b++) {
                if (holds(set, b)) {
                    all |= past[b];
                }
            }
            return all;
        }

        /** Puts a set into the sorted row, by rising score, of equal ones the earlier first; how many they are. */
        private int sortByScore(long set) {
            int count = 0;
            for (int b = 0; b < blocks.made; b++) {
                if (!holds(set, b)) {
                    continue;
                }
                int at = count;
                while (at > 0 && isBefore(b, sorted[at - 1])) {
                    sorted[at] = sorted[at - 1];
                    at--;
                }
                sorted[at] = b;
                count++;
            }
            return count;
        }

        private boolean isHeavier(int one, int other) {
            return scores[one] != scores[other] ? scores[one] > scores[other] : blocks.isEarlier(one, other);
        }

        private boolean isBefore(int one, int other) {
            return scores[one] != scores[other] ? scores[one] < scores[other] : blocks.isEarlier(one, other);
        }
    }

    /** Which outputs are unspent and which transactions are accepted. */
    private static final class Ledger {
        private final Transactions transactions;
        private final Blocks blocks;
        /** For each slot the amount; NONE if its output is not there or spent. */
        private final int[] amounts = new int[SLOTS];
        private long accepted;

        Ledger(Transactions transactions, Blocks blocks) {
            this.transactions = transactions;
            this.blocks = blocks;
        }

        void copyFrom(Ledger other) {
            System.arraycopy(other.amounts, 0, amounts, 0, SLOTS);
            accepted = other.accepted;
        }

        void replay(Dag dag) {
            Arrays.fill(amounts, NONE);
            accepted = 0;
            for (int place = 0; place < dag.size(); place++) {
                int block = dag.sequence[place];
                int fees = 0;
                for (int k = 0; k < blocks.includedCounts[block]; k++) {
                    fees += Math.max(accept(blocks.includedAt(block, k)), 0);
                }
                if (dag.isBlue(block)) {
                    amounts[BLOCK_SLOTS + block] = (FIRST_REWARD >> dag.scores[block] / SCORES_PER_HALVING) + fees;
                }
            }
        }

        boolean hasAccepted(int transaction) {
            return holds(accepted, transaction);
        }

        /** What a transaction would leave over; NONE if it would not be accepted. */
        int feeOf(int transaction) {
            int available = hasAccepted(transaction) ? NONE : inputSum(transaction);
            int needed = transactions.outputSum(transaction);
            // NONE lies below every sum, so it never suffices.
            return available < needed ? NONE : available - needed;
        }

        /** Does a transaction if it may be done: its fee, or NONE. */
        int accept(int transaction) {
            int fee = feeOf(transaction);
            if (fee == NONE) {
                return NONE;
            }
            for (int i = 0; i < transactions.inputCounts[transaction]; i++) {
                amounts[transactions.inputSlots[transaction * MOST_INPUTS + i]] = NONE;
            }
            for (int i = 0; i < transactions.outputCounts[transaction]; i++) {
                int slot = transaction * MOST_OUTPUTS + i;
                amounts[slot] = transactions.outputAmounts[slot];
            }
            accepted |= bit(transaction);
            return fee;
        }

        int sum() {
            int sum = 0;
            for (int slot = 0; slot < SLOTS; slot++) {
                sum += Math.max(amounts[slot], 0);
            }
            return sum;
        }

        /** What a transaction's inputs bring; NONE if one can't be spent or two are the same. */
        private int inputSum(int transaction) {
            int sum = 0;
            int last = NONE;
            for (int i = 0; i < transactions.inputCounts[transaction]; i++) {
                int at = transaction * MOST_INPUTS + i;
                int slot = transactions.inputSlots[at];
                if (amounts[slot] == NONE || slot == last || lockOf(slot) != transactions.inputLocks[at]) {
                    return NONE;
                }
                sum += amounts[slot];
                last = slot;
            }
            return sum;
        }

        private int lockOf(int slot) {
            return slot < BLOCK_SLOTS ? transactions.outputLocks[slot] : blocks.locks[slot - BLOCK_SLOTS];
        }
    }
}
