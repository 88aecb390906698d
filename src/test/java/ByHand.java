/** What the tests have in common that ask single objects by hand. */
abstract class ByHand {
    static final int G = Hand.GENESIS_SECRET;
    static final int MIN = Integer.MIN_VALUE;
    static final int MAX = Integer.MAX_VALUE;

    final Check check = new Check();

    /** A new object; what is asked from now on is about this part of the document. */
    Hand begin(String part, int k) {
        check.part(part);
        return new Hand(k, check);
    }

    static int[] on(int... blocks) {
        return blocks;
    }

    void dueInt(String call, int got, int want) {
        check.due(call, got, want);
    }

    void dueTrue(String call, boolean got) {
        check.due(call, got, true);
    }

    void dueFalse(String call, boolean got) {
        check.due(call, got, false);
    }

    void dueOrder(LimitedMesh x, int... blocks) {
        for (int i = 0; i < blocks.length; i++) {
            dueInt("order(" + i + ")", x.order(i), blocks[i]);
            dueInt("block(" + blocks[i] + ", 3)", x.block(blocks[i], 3), i);
        }
        dueInt("order behind the last", x.order(blocks.length), -1);
    }

    void duePool(LimitedMesh x, int... transactions) {
        for (int i = 0; i < transactions.length; i++) {
            dueInt("pool(" + i + ")", x.pool(i), transactions[i]);
        }
        dueInt("pool behind the last", x.pool(transactions.length), -1);
        dueInt("count(5)", x.count(5), transactions.length);
    }

    void dueWanted(LimitedMesh x, int... blocks) {
        for (int i = 0; i < blocks.length; i++) {
            dueInt("wanted(" + i + ")", x.wanted(i), blocks[i]);
        }
        dueInt("wanted behind the last", x.wanted(blocks.length), -1);
    }

    void dueParents(LimitedMesh x, int block, int... parents) {
        for (int k = 0; k < parents.length; k++) {
            dueInt("parentOf(" + block + ", " + k + ")", x.parentOf(block, k), parents[k]);
        }
        dueInt("parentOf behind the last", x.parentOf(block, parents.length), -1);
    }

    void dueCounts(LimitedMesh x, int... counts) {
        for (int what = 0; what < counts.length; what++) {
            dueInt("count(" + what + ")", x.count(what), counts[what]);
        }
    }
}
