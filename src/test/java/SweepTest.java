import java.util.ArrayList;
import java.util.List;
import java.util.function.IntUnaryOperator;

/** Every argument from far below its bounds to far above them, on one small known state. */
public final class SweepTest extends ByHand {
    private static final int REACH = 300;
    private static final int MOST_AMOUNT = 1000;
    private static final int BLOCKS = 7;
    /** Of each block what block() answers; its hash is the last. */
    private static final int[][] TOLD = {
        {2, 0, -1, 0, 0, Hand.mix(Hand.mix(13, 0), 0) & MAX},
        {2, 1, 0, 1, 0, 10},
        {1, 1, 0, 3, 0, 20},
        {2, 2, 1, 2, 0, 30},
        {0, -1, -1, -1, -1, 40},
        {3, -1, -1, -1, -1, 50},
        {0, -1, -1, -1, -1, Hand.GOOD_BELOW}};
    private static final int[] RECEIVED_AGAIN = {-3, -3, -3, -3, 0, -3, -2};
    private static final int[] FIRST_PARENTS = {-1, 0, 0, 1, 2, 4, 0};

    private final List<Integer> values = values();
    private int lastId;

    /** A call with one argument that is swept; a boolean answer is 1 or 0. */
    private interface Asked {
        int of(LimitedMesh x, int value);
    }

    public static void main(String[] args) {
        SweepTest test = new SweepTest();
        test.inputs();
        test.outputs();
        test.partsOfBlocks();
        test.whatComes();
        test.blocks();
        test.unspentOutputs();
        test.rows();
        test.counts();
        test.check.end();
    }

    private static List<Integer> values() {
        List<Integer> all = new ArrayList<>();
        for (int v = -REACH; v <= MOST_AMOUNT + REACH; v++) {
            all.add(v);
        }
        for (int i = 0; i <= REACH; i++) {
            all.add(MIN + i);
            all.add(MAX - i);
        }
        for (int bits = 11; bits < 31; bits++) {
            for (int near = -1; near <= 1; near++) {
                all.add((1 << bits) + near);
                all.add(-(1 << bits) + near);
            }
        }
        return all;
    }

    /** Blocks: 0, 1, 3 blue, 2 red, 4 unknown, 5 an orphan, 6 wrong; transactions: 0, 1 accepted, 2 in the pool. */
    private LimitedMesh state() {
        Hand h = begin("sweep", 0);
        h.add(10, 11, on(0));
        h.add(20, 12, on(0));
        h.pay(101, 0, 11, 1, 30, 2, 34);
        h.pay(0, 0, 1, 3, 29);
        h.pay(1, 0, 3, 4, 20, 5, 9);
        h.add(30, 13, on(1), 0, 1);
        h.make(40, 14, on(2));
        int orphan = h.make(50, 15, on(4, 3));
        h.makeWrong(Hand.GOOD_BELOW, 16, on(0));
        dueInt("the orphan", h.mesh.receive(orphan), 1);
        dueInt("the pool", h.mesh.submit(2), 0);
        lastId = h.idOf(2);
        return h.mesh;
    }

    private void sweep(String call, Asked asked, IntUnaryOperator due) {
        LimitedMesh x = state();
        for (int value : values) {
            if (x.callsLeft() < 4) {
                x = state();
            }
            dueInt(call + " with v = " + value, asked.of(x, value), due.applyAsInt(value));
        }
    }

    /** What is put is taken away again, so that there is always room. */
    private static int flagAndClear(LimitedMesh x, boolean answer) {
        x.clear();
        return answer ? 1 : 0;
    }

    private static IntUnaryOperator between(int first, int last) {
        return v -> v >= first && v <= last ? 1 : 0;
    }

    private static IntUnaryOperator row(int... answers) {
        return v -> v >= 0 && v < answers.length ? answers[v] : -1;
    }

    private void inputs() {
        sweep("input(v, 0, 1)", (x, v) -> flagAndClear(x, x.input(v, 0, 1)),
                v -> v >= 0 && v <= 2 || v >= 100 && v < 100 + BLOCKS ? 1 : 0);
        sweep("input(v, 1, 1)", (x, v) -> flagAndClear(x, x.input(v, 1, 1)), between(0, 2));
        for (int transaction = 0; transaction <= 2; transaction++) {
            int source = transaction;
            sweep("input(" + source + ", v, 1)", (x, v) -> flagAndClear(x, x.input(source, v, 1)), between(0, 1));
        }
        for (int block = 0; block < BLOCKS; block++) {
            int source = 100 + block;
            sweep("input(" + source + ", v, 1)", (x, v) -> flagAndClear(x, x.input(source, v, 1)), between(0, 0));
        }
        sweep("input(100, 0, v)", (x, v) -> flagAndClear(x, x.input(100, 0, v)), v -> 1);
    }

    private void outputs() {
        sweep("output(1, v)", (x, v) -> flagAndClear(x, x.output(1, v)), between(0, MOST_AMOUNT));
        sweep("output(v, 1)", (x, v) -> flagAndClear(x, x.output(v, 1)), v -> 1);
    }

    private void partsOfBlocks() {
        sweep("parent(v)", (x, v) -> flagAndClear(x, x.parent(v)), between(0, BLOCKS - 1));
        sweep("include(v)", (x, v) -> flagAndClear(x, x.include(v)), between(0, 2));
    }

    private void whatComes() {
        // Block 4 would be added.
        sweep("receive(v)", (x, v) -> v == 4 ? 0 : x.receive(v), row(RECEIVED_AGAIN));
        sweep("submit(v)", LimitedMesh::submit, row(-2, -2, -2));
    }

    private void blocks() {
        for (int i = 0; i <= 5; i++) {
            int what = i;
            int[] due = new int[BLOCKS];
            for (int b = 0; b < BLOCKS; b++) {
                due[b] = TOLD[b][what];
            }
            sweep("block(v, " + what + ")", (x, v) -> x.block(v, what), row(due));
        }
        for (int i = 0; i < BLOCKS; i++) {
            int b = i;
            sweep("block(" + b + ", v)", (x, v) -> x.block(b, v), row(TOLD[b]));
        }
        sweep("parentOf(v, 0)", (x, v) -> x.parentOf(v, 0), row(FIRST_PARENTS));
        sweep("parentOf(v, 1)", (x, v) -> x.parentOf(v, 1), v -> v == 5 ? 3 : -1);
        sweep("parentOf(5, v)", (x, v) -> x.parentOf(5, v), row(4, 3));
        sweep("parentOf(6, v)", (x, v) -> x.parentOf(6, v), row(0));
        sweep("parentOf(0, v)", (x, v) -> x.parentOf(0, v), row());
    }

    private void unspentOutputs() {
        sweep("unspent(v, 0)", (x, v) -> x.unspent(v, 0), v -> v == 1 ? 29 : v == 100 ? 64 : v == 103 ? 65 : -1);
        sweep("unspent(v, 1)", (x, v) -> x.unspent(v, 1), v -> v == 0 ? 34 : -1);
        sweep("unspent(0, v)", (x, v) -> x.unspent(0, v), row(-1, 34));
        sweep("unspent(1, v)", (x, v) -> x.unspent(1, v), row(29));
        sweep("unspent(2, v)", (x, v) -> x.unspent(2, v), row());
        sweep("unspent(100, v)", (x, v) -> x.unspent(100, v), row(64));
        sweep("unspent(103, v)", (x, v) -> x.unspent(103, v), row(65));
        sweep("total()", (x, v) -> x.total(), v -> 64 + 34 + 29 + 65);
    }

    private void rows() {
        sweep("order(v)", LimitedMesh::order, row(0, 1, 3, 2));
        sweep("pool(v)", LimitedMesh::pool, row(2));
        sweep("wanted(v)", LimitedMesh::wanted, row(4));
    }

    private void counts() {
        state();
        sweep("count(v)", LimitedMesh::count, row(3, BLOCKS, 4, 2, 1, 1, 2, 3, 3, lastId));
    }
}
