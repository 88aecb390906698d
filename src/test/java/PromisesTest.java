/** Each promise of the document by hand: ordinary calls, the edges that it names, and wrong inputs. */
public final class PromisesTest extends ByHand {
    public static void main(String[] args) {
        PromisesTest test = new PromisesTest();
        test.newObject();
        test.newObjectTakesKModuloFive();
        test.inputRefusals();
        test.inputsCount();
        test.outputs();
        test.transactionRefusals();
        test.fortyTransactions();
        test.parents();
        test.includes();
        test.makeRefusals();
        test.makeTriesFortyNonces();
        test.workIsRightBelowTheBound();
        test.sixtyBlocks();
        test.clears();
        test.templateOnTips();
        test.templateTakesFourTips();
        test.templateTakesThreeOfThePool();
        test.receiveRefusals();
        test.orphansWaitAndFollow();
        test.fifthOrphanDropsTheFirst();
        test.orphanWithOverlapIsDropped();
        test.submitRefusals();
        test.submitRefusesWhatWouldNotBeAccepted();
        test.eightInThePool();
        test.blockAnswers();
        test.selectedIsTheHeaviestThenEarliest();
        test.mergedByScoreThenHash();
        test.bluesKeepToK();
        test.blueOfTheVirtualBlockOnly();
        test.orders();
        test.unspentFollowsTheOrder();
        test.unspentRewardsHalve();
        test.feesGoToBlueBlocks();
        test.outputsOfNothing();
        test.acceptedOnce();
        test.poolDropsWhatIsOver();
        test.poolKeepsWhatStillHolds();
        test.poolIsLookedAtOnceAtTheEnd();
        test.wantedBlocks();
        test.parentsOf();
        test.counts();
        test.totals();
        test.check.end();
    }

    // Promise 1

    private void newObject() {
        LimitedMesh x = begin("promise 1", 3).mesh;
        dueCounts(x, 0, 1, 1, 1, 0, 0, 0, 1, 0, 0);
        dueOrder(x, 0);
        duePool(x);
        dueWanted(x);
        dueInt("block(0, 0)", x.block(0, 0), 2);
        dueInt("block(0, 1)", x.block(0, 1), 0);
        dueInt("block(0, 2)", x.block(0, 2), -1);
        dueInt("block(0, 4)", x.block(0, 4), 0);
        dueInt("block(0, 5)", x.block(0, 5), Hand.mix(Hand.mix(13, 0), 0) & MAX);
        dueInt("parentOf(0, 0)", x.parentOf(0, 0), -1);
        dueInt("unspent(100, 0)", x.unspent(100, 0), 64);
        dueInt("total()", x.total(), 64);
    }

    private void newObjectTakesKModuloFive() {
        int[][] given = {{0, 0}, {1, 1}, {2, 2}, {3, 3}, {4, 4}, {5, 0}, {9, 4}, {255, 0}, {256, 0}, {257, 1}, {-1, 0},
            {-2, 4}, {-251, 0}, {-252, 4}, {-256, 0}, {MAX, 0}, {MIN, 0}, {MIN + 3, 3}, {1000, 2}};
        for (int[] g : given) {
            Hand h = begin("promise 1, k = " + g[0], g[0]);
            for (int i = 1; i <= 6; i++) {
                h.add(i, i, on(0));
            }
            // Of brothers, each has all others in its anticone: K + 1 of them are blue beside the genesis.
            dueInt("count(7)", h.mesh.count(7), g[1] + 2);
        }
    }

    // Promise 2

    private void inputRefusals() {
        Hand h = begin("promise 2", 0);
        LimitedMesh x = h.mesh;
        for (int source : new int[] {MIN, -100, -1, 0, 39, 40, 60, 99, 101, 160, MAX}) {
            dueFalse("input(" + source + ", 0, 1)", x.input(source, 0, 1));
        }
        for (int output : new int[] {MIN, -1, 1, 2, MAX}) {
            dueFalse("input(100, " + output + ", 1)", x.input(100, output, 1));
        }
        dueInt("transaction() without an input", x.transaction(), -1);
        h.pay(100, 0, G, 5, 64);
        for (int output : new int[] {MIN, -1, 2, MAX}) {
            dueFalse("input(0, " + output + ", 1)", x.input(0, output, 1));
        }
        dueFalse("input of the next transaction", x.input(1, 0, 1));
        int unknown = h.make(7, 7, on(0));
        dueFalse("input of a block's output 1", x.input(100 + unknown, 1, 7));
        dueFalse("input of the next block", x.input(101 + unknown, 0, 7));
        h.pay(100 + unknown, 0, 7, 1, 1);
        // Whether the transaction has the output is not looked at.
        h.pay(0, 1, 5, 1, 1);
        dueInt("submit", x.submit(2), -3);
    }

    private void inputsCount() {
        Hand h = begin("promise 2", 0);
        LimitedMesh x = h.mesh;
        h.pay(100, 0, G, 5, 30, 6, 34);
        dueTrue("first input", x.input(0, 1, 6));
        dueTrue("second input", x.input(0, 0, 5));
        dueFalse("third input", x.input(100, 0, G));
        dueTrue("output", x.output(8, 64));
        dueInt("transaction()", x.transaction(), 1);
        int id = Hand.mix(Hand.mix(Hand.mix(11, h.idOf(0)), 1), 6);
        id = Hand.mix(Hand.mix(Hand.mix(id, h.idOf(0)), 0), 5);
        dueInt("count(9)", x.count(9), Hand.mix(Hand.mix(id, Hand.mix(7, 8)), 64));
        dueInt("submit(0)", x.submit(0), 0);
        dueInt("submit(1)", x.submit(1), 0);
        dueTrue("a new transaction is begun", x.input(100, 0, MIN));
        dueTrue("with room for two", x.input(100, 0, MAX));
        dueFalse("but not three", x.input(100, 0, 0));
    }

    // Promise 3

    private void outputs() {
        Hand h = begin("promise 3", 0);
        LimitedMesh x = h.mesh;
        for (int amount : new int[] {MIN, -1, 1001, MAX}) {
            dueFalse("output(1, " + amount + ")", x.output(1, amount));
        }
        dueTrue("input", x.input(100, 0, G));
        dueInt("transaction() without an output", x.transaction(), -1);
        dueTrue("output(9, 0)", x.output(9, 0));
        dueTrue("output(MIN, 1000)", x.output(MIN, 1000));
        dueFalse("third output", x.output(3, 1));
        dueInt("transaction()", x.transaction(), 0);
        int id = Hand.mix(Hand.mix(Hand.mix(11, h.hashOf(0)), 0), G);
        id = Hand.mix(Hand.mix(id, Hand.mix(7, 9)), 0);
        dueInt("count(9)", x.count(9), Hand.mix(Hand.mix(id, Hand.mix(7, MIN)), 1000));
        dueInt("1000 are more than 64", x.submit(0), -3);
        dueTrue("output of a new one", x.output(1, 1));
        dueTrue("second output of a new one", x.output(1, 1));
        dueFalse("third output of a new one", x.output(1, 1));
    }

    // Promise 4

    private void transactionRefusals() {
        Hand h = begin("promise 4", 0);
        LimitedMesh x = h.mesh;
        dueInt("transaction() of nothing", x.transaction(), -1);
        dueTrue("output", x.output(5, 10));
        dueInt("transaction() without an input", x.transaction(), -1);
        dueTrue("input", x.input(100, 0, G));
        dueInt("the output stayed", x.transaction(), 0);
        int id = Hand.mix(Hand.mix(Hand.mix(11, h.hashOf(0)), 0), G);
        dueInt("count(9)", x.count(9), Hand.mix(Hand.mix(id, Hand.mix(7, 5)), 10));
        dueInt("a new one is begun", x.transaction(), -1);
        dueTrue("input", x.input(0, 0, 5));
        dueInt("transaction() without an output", x.transaction(), -1);
        dueTrue("output", x.output(6, 10));
        dueInt("the input stayed", x.transaction(), 1);
        dueInt("count(0)", x.count(0), 2);
        dueTrue("parent", x.parent(0));
        dueInt("the block is not touched", x.make(1, 1), 1);
    }

    private void fortyTransactions() {
        Hand h = begin("promise 4", 0);
        LimitedMesh x = h.mesh;
        for (int i = 0; i < 40; i++) {
            h.pay(100, 0, G, i, i);
        }
        int last = x.count(9);
        dueTrue("input", x.input(39, 1, 1));
        dueTrue("input", x.input(39, 0, 1));
        dueFalse("third input", x.input(39, 0, 1));
        dueTrue("output", x.output(1, 1));
        dueTrue("output", x.output(1, 2));
        dueFalse("third output", x.output(1, 3));
        dueInt("the 41st", x.transaction(), -1);
        dueInt("count(0)", x.count(0), 40);
        dueInt("count(9)", x.count(9), last);
        dueFalse("input of the 41st", x.input(40, 0, 1));
        dueFalse("include of the 41st", x.include(40));
        dueInt("submit of the 41st", x.submit(40), -1);
        dueInt("unspent of the 41st", x.unspent(40, 0), -1);
        dueInt("submit of the 40th", x.submit(39), 0);
        x.clear();
        dueTrue("input after clear()", x.input(39, 1, 1));
    }

    // Promise 5

    private void parents() {
        Hand h = begin("promise 5", 2);
        LimitedMesh x = h.mesh;
        for (int block : new int[] {MIN, -1, 1, 59, 60, 64, 100, MAX}) {
            dueFalse("parent(" + block + ")", x.parent(block));
        }
        for (int i = 1; i <= 5; i++) {
            h.make(i, i, on(0));
        }
        dueTrue("parent(3), unknown to the node", x.parent(3));
        dueFalse("parent(3) again", x.parent(3));
        dueFalse("parent(6)", x.parent(6));
        dueTrue("parent(1)", x.parent(1));
        dueTrue("parent(5)", x.parent(5));
        dueFalse("parent(1) again", x.parent(1));
        dueTrue("parent(2)", x.parent(2));
        dueFalse("a fifth parent", x.parent(4));
        int nonce = h.nonceFor(99, 9, on(3, 1, 5, 2));
        dueInt("make", x.make(9, nonce), 6);
        dueInt("the hash takes the parents in order", x.block(6, 5), 99);
        int[] parents = {3, 1, 5, 2, -1};
        for (int k = 0; k < parents.length; k++) {
            dueInt("parentOf(6, " + k + ")", x.parentOf(6, k), parents[k]);
        }
        dueTrue("a new block is begun", x.parent(3));
    }

    // Promise 6

    private void includes() {
        Hand h = begin("promise 6", 2);
        LimitedMesh x = h.mesh;
        for (int transaction : new int[] {MIN, -1, 0, 39, 40, 100, MAX}) {
            dueFalse("include(" + transaction + ")", x.include(transaction));
        }
        for (int i = 0; i < 4; i++) {
            h.pay(100, 0, G, i, 10 + i);
        }
        dueTrue("include(3)", x.include(3));
        dueFalse("include(3) again", x.include(3));
        dueFalse("include(4)", x.include(4));
        dueTrue("include(0)", x.include(0));
        dueTrue("include(2)", x.include(2));
        dueFalse("a fourth one", x.include(1));
        dueTrue("parent(0)", x.parent(0));
        int nonce = h.nonceFor(77, 9, on(0), 3, 0, 2);
        dueInt("make", x.make(9, nonce), 1);
        dueInt("the hash takes the transactions in order", x.block(1, 5), 77);
        dueInt("receive(1)", x.receive(1), 0);
        dueInt("the first in order is accepted", x.unspent(3, 0), 13);
        dueInt("the second finds nothing", x.unspent(0, 0), -1);
        dueInt("count(6)", x.count(6), 1);
        dueTrue("a new block is begun", x.include(3));
    }

    // Promise 7

    private void makeRefusals() {
        Hand h = begin("promise 7", 0);
        LimitedMesh x = h.mesh;
        dueInt("make without a parent", x.make(1, 1), -1);
        h.pay(100, 0, G, 1, 64);
        dueTrue("include(0)", x.include(0));
        dueInt("make without a parent", x.make(1, 1), -1);
        dueTrue("parent(0)", x.parent(0));
        int nonce = h.nonceFor(5, 4, on(0), 0);
        dueInt("make: what was included stayed", x.make(4, nonce), 1);
        dueInt("block(1, 5)", x.block(1, 5), 5);
        dueInt("block(1, 0): it is not received by that", x.block(1, 0), 0);
        dueInt("make: a new one is begun", x.make(4, nonce), -1);
        dueTrue("parent(0)", x.parent(0));
        int withoutTransaction = h.nonceFor(6, 4, on(0));
        dueInt("make: without transactions again", x.make(4, withoutTransaction), 2);
        dueInt("block(2, 5)", x.block(2, 5), 6);
        dueInt("count(1)", x.count(1), 3);
    }

    private void makeTriesFortyNonces() {
        Hand h = begin("promise 7", 0);
        LimitedMesh x = h.mesh;
        // Below the nonce that gives the hash 0, the numbers before the last xor count down from all ones.
        int zero = h.nonceFor(0, 3, on(0));
        int number = 1;
        for (int steps : new int[] {0, 1, 20, 38, 39}) {
            h.put(on(0));
            dueInt("make", x.make(3, zero - steps), number);
            dueInt("hash after " + steps + " wrong nonces", x.block(number, 5), 0);
            number++;
        }
        for (int steps : new int[] {40, 41, 60}) {
            h.put(on(0));
            dueInt("make", x.make(3, zero - steps), number);
            int t = 39 - steps;
            dueInt("the last hash of the forty", x.block(number, 5), (t ^ (t >>> 13)) & MAX);
            dueInt("receive", x.receive(number), -2);
            number++;
        }
        // The first right nonce is taken, though a later one is right too.
        h.put(on(0));
        dueInt("make", x.make(3, zero + 5), number);
        dueInt("hash of the first nonce", x.block(number, 5), 5);
    }

    private void workIsRightBelowTheBound() {
        Hand h = begin("promise 7 and 10", 0);
        LimitedMesh x = h.mesh;
        int best = Hand.GOOD_BELOW - 1;
        h.add(best, 3, on(0));
        h.put(on(0));
        dueInt("make", x.make(4, h.nonceFor(Hand.GOOD_BELOW, 4, on(0)) - 39), 2);
        dueInt("the hash is the bound itself", x.block(2, 5), Hand.GOOD_BELOW);
        dueInt("receive(2)", x.receive(2), -2);
        dueInt("receive(2) again", x.receive(2), -2);
        dueInt("block(2, 0)", x.block(2, 0), 0);
        dueInt("count(2)", x.count(2), 2);
        // Of the hash the highest bit is taken away: one that was below 0 may be right.
        h.put(on(0));
        dueInt("make", x.make(5, h.nonceFor(MIN | 4711, 5, on(0))), 3);
        dueInt("block(3, 5)", x.block(3, 5), 4711);
        dueInt("receive(3)", x.receive(3), 0);
    }

    private void sixtyBlocks() {
        Hand h = begin("promise 7 and 9", 0);
        LimitedMesh x = h.mesh;
        for (int i = 1; i < 60; i++) {
            h.make(i, i, on(0));
        }
        h.pay(159, 0, 59, 1, 1);
        dueTrue("parent(59)", x.parent(59));
        dueInt("make of the 61st", x.make(1, 1), -1);
        dueInt("template of the 61st", x.template(1, 1), -1);
        dueInt("count(1)", x.count(1), 60);
        dueFalse("parent(59) stayed", x.parent(59));
        dueFalse("parent(60)", x.parent(60));
        dueFalse("input(160, 0, 1)", x.input(160, 0, 1));
        dueInt("receive(60)", x.receive(60), -1);
        dueInt("receive(59)", x.receive(59), 0);
        dueInt("unspent(159, 0)", x.unspent(159, 0), 64);
        dueInt("block(60, 0)", x.block(60, 0), -1);
        dueInt("block(60, 5)", x.block(60, 5), -1);
    }

    // Promise 8

    private void clears() {
        Hand h = begin("promise 8", 0);
        LimitedMesh x = h.mesh;
        h.pay(100, 0, G, 5, 64);
        dueInt("submit(0)", x.submit(0), 0);
        h.make(7, 7, on(0));
        dueTrue("input", x.input(100, 0, 1));
        dueTrue("input", x.input(100, 0, 2));
        dueTrue("output", x.output(1, 1));
        dueTrue("output", x.output(2, 2));
        h.put(on(0, 1), 0);
        x.clear();
        dueInt("transaction()", x.transaction(), -1);
        dueInt("make", x.make(1, 1), -1);
        h.pay(0, 0, 5, 3, 3);
        h.make(8, 8, on(1), 1);
        dueInt("parentOf(2, 0)", x.parentOf(2, 0), 1);
        dueInt("parentOf(2, 1)", x.parentOf(2, 1), -1);
        dueTrue("input", x.input(100, 0, 1));
        x.clear();
        dueTrue("output", x.output(1, 1));
        dueInt("the input is away", x.transaction(), -1);
        x.clear();
        dueTrue("input", x.input(100, 0, 1));
        dueInt("the output is away", x.transaction(), -1);
        x.clear();
        x.clear();
        dueCounts(x, 2, 3, 1, 1, 0, 1, 0, 1, 0);
        duePool(x, 0);
    }

    // Promise 9

    private void templateOnTips() {
        Hand h = begin("promise 9", 1);
        LimitedMesh x = h.mesh;
        h.pay(100, 0, G, 5, 60);
        h.put(on(0), 0);
        dueTrue("input", x.input(100, 0, 8));
        dueTrue("output", x.output(8, 8));
        dueInt("template", x.template(3, h.nonceFor(50, 3, on(0))), 1);
        h.note(50);
        dueInt("block(1, 5)", x.block(1, 5), 50);
        dueInt("block(1, 0): it is not received by that", x.block(1, 0), 0);
        dueInt("parentOf(1, 0)", x.parentOf(1, 0), 0);
        dueInt("parentOf(1, 1)", x.parentOf(1, 1), -1);
        dueFalse("the parent stayed", x.parent(0));
        dueFalse("the included transaction stayed", x.include(0));
        int nonce = h.nonceFor(51, 4, on(0), 0);
        dueInt("make", x.make(4, nonce), 2);
        dueInt("block(2, 5)", x.block(2, 5), 51);
        h.note(51);
        dueInt("the transaction stayed", x.transaction(), 1);
        h.noteId(x.count(9));
        dueInt("receive(1)", x.receive(1), 0);
        dueInt("its lock is the secret's", x.unspent(101, 0), 64);
        int spend = h.pay(101, 0, 3, 1, 1);
        dueInt("submit", x.submit(spend), 0);
        // As with make(), the fortieth nonce is the last.
        int zero = h.nonceFor(0, 6, on(1), spend);
        dueInt("template", x.template(6, zero - 39), 3);
        dueInt("block(3, 5)", x.block(3, 5), 0);
        dueInt("template", x.template(6, zero - 40), 4);
        dueInt("block(4, 5)", x.block(4, 5), (-1 ^ (-1 >>> 13)) & MAX);
        dueInt("receive(4)", x.receive(4), -2);
        duePool(x, spend);
    }

    private void templateTakesFourTips() {
        Hand h = begin("promise 9", 1);
        LimitedMesh x = h.mesh;
        h.add(40, 1, on(0));
        h.add(10, 2, on(0));
        h.add(30, 3, on(0));
        h.add(20, 4, on(0));
        int nonce = h.nonceFor(1, 9, on(2, 4, 3, 1));
        dueInt("template on four tips, the earlier first", x.template(9, nonce), 5);
        dueInt("block(5, 5)", x.block(5, 5), 1);
        h.note(1);
        h.add(50, 6, on(0));
        int deep = h.add(60, 7, on(1));
        dueInt("count(3)", x.count(3), 5);
        int mostOfFive = h.nonceFor(2, 9, on(deep, 2, 4, 3));
        dueInt("template on four of five tips, the heaviest first", x.template(9, mostOfFive), 8);
        h.note(2);
        int[] parents = {deep, 2, 4, 3, -1};
        for (int k = 0; k < parents.length; k++) {
            dueInt("parentOf(8, " + k + ")", x.parentOf(8, k), parents[k]);
        }
        dueInt("block(8, 5)", x.block(8, 5), 2);
        dueInt("receive(8)", x.receive(8), 0);
        dueInt("count(3)", x.count(3), 2);
        dueInt("block(8, 2)", x.block(8, 2), deep);
        // With equal hashes the lesser number is earlier.
        Hand even = begin("promise 9", 1);
        even.add(7, 1, on(0));
        even.add(7, 2, on(0));
        even.add(7, 3, on(0));
        dueInt("template", even.mesh.template(9, 0), 4);
        dueInt("parentOf(4, 0)", even.mesh.parentOf(4, 0), 1);
        dueInt("parentOf(4, 1)", even.mesh.parentOf(4, 1), 2);
        dueInt("parentOf(4, 2)", even.mesh.parentOf(4, 2), 3);
    }

    private void templateTakesThreeOfThePool() {
        Hand h = begin("promise 9", 1);
        LimitedMesh x = h.mesh;
        int last = h.pay(100, 0, G, 1, 60);
        int first = last;
        for (int i = 1; i <= 4; i++) {
            last = h.pay(last, 0, i, i + 1, 60 - i);
        }
        for (int t = first; t <= last; t++) {
            dueInt("submit", x.submit(t), 0);
        }
        int nonce = h.nonceFor(9, 9, on(0), 0, 1, 2);
        dueInt("template", x.template(9, nonce), 1);
        dueInt("block(1, 5)", x.block(1, 5), 9);
        duePool(x, 0, 1, 2, 3, 4);
        dueInt("receive(1)", x.receive(1), 0);
        duePool(x, 3, 4);
        dueInt("count(6)", x.count(6), 3);
        dueInt("the fees are 4, 1 and 1", x.unspent(101, 0), 70);
        h.note(9);
        dueInt("template", x.template(9, h.nonceFor(10, 9, on(1), 3, 4)), 2);
        dueInt("block(2, 5)", x.block(2, 5), 10);
        dueInt("receive(2)", x.receive(2), 0);
        duePool(x);
    }

    // Promise 10

    private void receiveRefusals() {
        Hand h = begin("promise 10", 0);
        LimitedMesh x = h.mesh;
        for (int block : new int[] {MIN, -1, 1, 59, 60, 100, MAX}) {
            dueInt("receive(" + block + ")", x.receive(block), -1);
        }
        dueInt("receive(0)", x.receive(0), -3);
        h.add(1, 1, on(0));
        dueInt("receive(1) again", x.receive(1), -3);
        h.add(2, 2, on(1));
        int overParent = h.make(3, 3, on(1, 2));
        dueInt("a parent is the other one's parent", x.receive(overParent), -4);
        int overPast = h.make(4, 4, on(2, 0));
        dueInt("a parent is in the other one's past", x.receive(overPast), -4);
        dueInt("refused again", x.receive(overPast), -4);
        dueInt("block(overPast, 0)", x.block(overPast, 0), 0);
        int side = h.add(5, 5, on(0));
        h.add(6, 6, on(2, side));
        int lacking = h.make(7, 7, on(0));
        int overButLacking = h.make(8, 8, on(1, 2, lacking));
        dueInt("a parent lacks: that is looked at first", x.receive(overButLacking), 1);
        dueInt("receive of an orphan", x.receive(overButLacking), -3);
        dueCounts(x, 0, 9, 5, 1, 1);
    }

    private void orphansWaitAndFollow() {
        Hand h = begin("promise 10", 4);
        LimitedMesh x = h.mesh;
        h.make(11, 1, on(0));
        h.make(12, 2, on(1));
        h.make(13, 3, on(2));
        h.make(14, 4, on(2));
        h.make(15, 5, on(3));
        dueInt("receive(5)", x.receive(5), 1);
        dueInt("receive(2)", x.receive(2), 1);
        dueInt("receive(3)", x.receive(3), 1);
        dueInt("block(3, 0)", x.block(3, 0), 3);
        dueInt("block(3, 1)", x.block(3, 1), -1);
        dueWanted(x, 1);
        dueCounts(x, 0, 6, 1, 1, 3, 0, 0, 1, 0);
        dueInt("total()", x.total(), 64);
        dueInt("receive(1) and all that waited", x.receive(1), 0);
        dueCounts(x, 0, 6, 5, 1, 0, 0, 0, 5, 5);
        dueOrder(x, 0, 1, 2, 3, 5);
        dueInt("total()", x.total(), 5 * 64);
        dueInt("an orphan that is in the DAG now", x.receive(5), -3);
    }

    private void fifthOrphanDropsTheFirst() {
        Hand h = begin("promise 10", 4);
        LimitedMesh x = h.mesh;
        h.make(11, 1, on(0));
        for (int i = 2; i <= 7; i++) {
            h.make(10 + i, i, on(1));
        }
        for (int b : new int[] {5, 2, 7, 3}) {
            dueInt("receive(" + b + ")", x.receive(b), 1);
        }
        dueInt("count(4)", x.count(4), 4);
        dueInt("a fifth orphan", x.receive(4), 1);
        dueInt("count(4)", x.count(4), 4);
        dueInt("the longest waiting is dropped", x.block(5, 0), 0);
        dueInt("block(2, 0)", x.block(2, 0), 3);
        dueInt("it may come again", x.receive(5), 1);
        dueInt("then the next is dropped", x.block(2, 0), 0);
        dueInt("an orphan again is refused", x.receive(7), -3);
        dueInt("count(4)", x.count(4), 4);
        dueInt("receive(1)", x.receive(1), 0);
        dueCounts(x, 0, 8, 6, 4, 0);
        dueInt("block(2, 0)", x.block(2, 0), 0);
        for (int b : new int[] {3, 4, 5, 7}) {
            dueInt("block(" + b + ", 1)", x.block(b, 1), 2);
        }
    }

    private void orphanWithOverlapIsDropped() {
        Hand h = begin("promise 10", 4);
        LimitedMesh x = h.mesh;
        h.make(11, 1, on(0));
        h.make(12, 2, on(1));
        h.make(13, 3, on(1, 2));
        h.make(14, 4, on(3));
        h.make(15, 5, on(2));
        for (int b : new int[] {4, 3, 5, 2}) {
            dueInt("receive(" + b + ")", x.receive(b), 1);
        }
        dueWanted(x, 1);
        dueInt("receive(1)", x.receive(1), 0);
        dueOrder(x, 0, 1, 2, 5);
        dueInt("the orphan whose parents overlap is dropped", x.block(3, 0), 0);
        dueInt("its child waits", x.block(4, 0), 3);
        dueWanted(x, 3);
        dueInt("count(4)", x.count(4), 1);
        dueInt("receive(3)", x.receive(3), -4);
        dueInt("count(4)", x.count(4), 1);
    }

    // Promise 11

    private void submitRefusals() {
        Hand h = begin("promise 11", 0);
        LimitedMesh x = h.mesh;
        for (int transaction : new int[] {MIN, -1, 0, 39, 40, 64, 100, MAX}) {
            dueInt("submit(" + transaction + ")", x.submit(transaction), -1);
        }
        int first = h.pay(100, 0, G, 1, 64);
        int behind = h.pay(first, 0, 1, 2, 64);
        dueInt("its source is not there", x.submit(behind), -3);
        dueInt("submit", x.submit(first), 0);
        dueInt("submit again", x.submit(first), -2);
        dueInt("its source is in the pool", x.submit(behind), 0);
        duePool(x, first, behind);
        h.add(5, 5, on(0), first);
        dueInt("accepted already", x.submit(first), -2);
        duePool(x, behind);
        dueInt("submit does not accept", x.count(6), 1);
        dueInt("submit does not spend", x.unspent(first, 0), 64);
    }

    private void submitRefusesWhatWouldNotBeAccepted() {
        Hand h = begin("promise 11", 0);
        LimitedMesh x = h.mesh;
        int[] genesis = {100, 0, G};
        int unknown = h.make(3, 3, on(0));
        int[][] two = {{100, 0, G}, {100, 0, G}};
        dueInt("wrong secret", x.submit(h.pay(100, 0, G + 1, 1, 1)), -3);
        dueInt("too much", x.submit(h.pay(100, 0, G, 1, 65)), -3);
        dueInt("too much together", x.submit(h.pay(100, 0, G, 1, 32, 2, 33)), -3);
        dueInt("twice the same output", x.submit(h.join(two[0], two[1], 1, 1)), -3);
        dueInt("a block that is not in the DAG", x.submit(h.pay(100 + unknown, 0, 3, 1, 1)), -3);
        int split = h.pay(100, 0, G, 1, 30, 2, 34);
        dueInt("all of it", x.submit(split), 0);
        dueInt("spent in the pool", x.submit(h.pay(100, 0, G, 1, 1)), -3);
        dueInt("the same again, as another transaction", x.submit(h.pay(100, 0, G, 1, 30, 2, 34)), -3);
        dueInt("second secret wrong", x.submit(h.join(on(split, 0, 1), on(split, 1, 1), 3, 1)), -3);
        dueInt("first secret wrong", x.submit(h.join(on(split, 0, 2), on(split, 1, 2), 3, 1)), -3);
        dueInt("one of two is not there", x.submit(h.join(on(split, 0, 1), genesis, 3, 1)), -3);
        dueInt("both, and too much", x.submit(h.join(on(split, 0, 1), on(split, 1, 2), 3, 65)), -3);
        int both = h.join(on(split, 1, 2), on(split, 0, 1), 3, 60, 4, 4);
        dueInt("both", x.submit(both), 0);
        int lone = h.pay(both, 0, 3, 5, 0);
        dueInt("an output with nothing", x.submit(lone), 0);
        dueInt("no output 1", x.submit(h.pay(lone, 1, 0, 5, 0)), -3);
        duePool(x, split, both, lone);
        dueInt("receive", x.receive(unknown), 0);
        dueInt("the block is in the DAG now", x.submit(4), 0);
        duePool(x, split, both, lone, 4);
    }

    private void eightInThePool() {
        Hand h = begin("promise 11", 0);
        LimitedMesh x = h.mesh;
        int last = h.pay(100, 0, G, 0, 64);
        for (int i = 1; i <= 8; i++) {
            last = h.pay(last, 0, i - 1, i, 64);
        }
        int wrong = h.pay(100, 0, G, 1, 1);
        for (int t = 0; t < 8; t++) {
            dueInt("submit(" + t + ")", x.submit(t), 0);
        }
        dueInt("a ninth", x.submit(8), -4);
        dueInt("a ninth again", x.submit(8), -4);
        dueInt("none such", x.submit(10), -1);
        dueInt("in the pool already", x.submit(7), -2);
        dueInt("would not be accepted", x.submit(wrong), -3);
        duePool(x, 0, 1, 2, 3, 4, 5, 6, 7);
        dueInt("pool(-1)", x.pool(-1), -1);
        dueInt("pool(MIN)", x.pool(MIN), -1);
        dueInt("pool(MAX)", x.pool(MAX), -1);
        h.add(3, 3, on(0), 0);
        dueInt("there is room again", x.submit(8), 0);
        duePool(x, 1, 2, 3, 4, 5, 6, 7, 8);
    }

    // Promise 12

    private void blockAnswers() {
        Hand h = begin("promise 12", 0);
        LimitedMesh x = h.mesh;
        int main = h.add(11, 1, on(0));
        int red = h.add(12, 2, on(0));
        int merging = h.add(13, 3, on(main, red));
        int unknown = h.make(14, 4, on(0));
        int orphan = h.make(15, 5, on(unknown));
        dueInt("receive", x.receive(orphan), 1);
        int[][] due = {
            {2, 0, -1, 0, 0, h.hashOf(0)},
            {2, 1, 0, 1, 0, 11},
            {1, 1, 0, 3, 0, 12},
            {2, 2, main, 4, 1, 13},
            {0, -1, -1, -1, -1, 14},
            {3, -1, -1, -1, -1, 15}};
        due[main][3] = 1;
        due[merging][3] = 3;
        due[red][3] = 2;
        for (int b = 0; b < due.length; b++) {
            for (int what = 0; what < 6; what++) {
                dueInt("block(" + b + ", " + what + ")", x.block(b, what), due[b][what]);
            }
            for (int what : new int[] {MIN, -1, 6, 7, MAX}) {
                dueInt("block(" + b + ", " + what + ")", x.block(b, what), -1);
            }
        }
        for (int b : new int[] {MIN, -1, 6, 59, 60, 64, MAX}) {
            for (int what = -1; what < 7; what++) {
                dueInt("block(" + b + ", " + what + ")", x.block(b, what), -1);
            }
        }
    }

    private void selectedIsTheHeaviestThenEarliest() {
        Hand h = begin("promise 12, SELECTED", 0);
        LimitedMesh x = h.mesh;
        h.add(30, 1, on(0));
        dueInt("count(8)", x.count(8), 1);
        h.add(20, 2, on(0));
        dueInt("the earlier of two", x.count(8), 2);
        h.add(25, 3, on(0));
        dueInt("the earliest of three", x.count(8), 2);
        h.add(20, 4, on(0));
        dueInt("of equal hashes the lesser number", x.count(8), 2);
        dueInt("count(7)", x.count(7), 2);
        int over = h.add(99, 5, on(1, 3));
        dueInt("SELECTED is not the first parent", x.block(over, 2), 3);
        dueInt("the heaviest, though its hash is greater", x.count(8), over);
        int even = h.add(98, 6, on(4, 2));
        dueInt("of equal hashes the lesser number", x.block(even, 2), 2);
        dueInt("count(8)", x.count(8), even);
        int heavier = h.add(97, 7, on(even, over));
        dueInt("SELECTED of blocks of score 2", x.block(heavier, 2), even);
        int late = h.add(1, 8, on(0));
        int behind = h.add(2, 9, on(late, heavier));
        dueInt("the score comes before the hash", x.block(behind, 2), heavier);
    }

    private void mergedByScoreThenHash() {
        Hand h = begin("promise 12 and 13, MERGED", 4);
        LimitedMesh x = h.mesh;
        int a = h.add(50, 1, on(0));
        int b = h.add(60, 2, on(0));
        int b2 = h.add(10, 3, on(b));
        int c = h.add(55, 4, on(0));
        int d = h.add(55, 5, on(0));
        int a2 = h.add(40, 6, on(a));
        int a3 = h.add(90, 7, on(a2));
        dueInt("count(8)", x.count(8), a3);
        dueOrder(x, 0, a, a2, a3, c, d, b, b2);
        int all = h.add(91, 8, on(b2, c, a3, d));
        dueInt("SELECTED", x.block(all, 2), a3);
        dueInt("how many it MERGED", x.block(all, 4), 4);
        dueOrder(x, 0, a, a2, a3, c, d, b, b2, all);
        int next = h.add(92, 9, on(all));
        dueInt("MERGED are its own alone", x.block(next, 4), 0);
        dueOrder(x, 0, a, a2, a3, c, d, b, b2, all, next);
    }

    private void bluesKeepToK() {
        for (int k = 0; k <= 4; k++) {
            Hand h = begin("promise 12, BLUES with K = " + k, k);
            LimitedMesh x = h.mesh;
            int y = h.add(10, 1, on(0));
            int s = h.add(11, 2, on(y));
            int c1 = h.add(20, 3, on(0));
            int d = h.add(30, 4, on(0));
            int c2 = h.add(31, 5, on(c1));
            dueOrder(x, 0, y, s, c1, d, c2);
            // c1 is apart from y, s; d from y, s, c1; c2 from y, s, d.
            dueInt("y", x.block(y, 0), 2);
            dueInt("s", x.block(s, 0), 2);
            dueInt("c1", x.block(c1, 0), k >= 2 ? 2 : 1);
            dueInt("d", x.block(d, 0), k >= 3 ? 2 : 1);
            // With K = 3 it is d that would have a fourth one apart; with K = 2 there is no d.
            dueInt("c2", x.block(c2, 0), k == 2 || k == 4 ? 2 : 1);
            dueInt("count(7)", x.count(7), k < 2 ? 3 : k == 4 ? 6 : 5);
            int all = h.add(12, 6, on(d, c2, s));
            dueInt("SCORE", x.block(all, 1), k < 2 ? 3 : k == 4 ? 6 : 5);
            dueInt("count(7)", x.count(7), k < 2 ? 4 : k == 4 ? 7 : 6);
        }
    }

    private void blueOfTheVirtualBlockOnly() {
        Hand h = begin("promise 12, other BLUES", 0);
        LimitedMesh x = h.mesh;
        int a = h.add(10, 1, on(0));
        int b = h.add(20, 2, on(0));
        dueInt("a", x.block(a, 0), 2);
        dueInt("b", x.block(b, 0), 1);
        int b2 = h.add(30, 3, on(b));
        dueInt("a is no longer blue", x.block(a, 0), 1);
        dueInt("b is", x.block(b, 0), 2);
        dueOrder(x, 0, b, b2, a);
        dueInt("unspent of a", x.unspent(100 + a, 0), -1);
        dueInt("unspent of b", x.unspent(100 + b, 0), 64);
        dueInt("SCORE of a stays", x.block(a, 1), 1);
        // Behind a block that merged it, a red one stays red though it has no brother among the tips.
        int over = h.add(40, 4, on(a, b2));
        dueInt("a", x.block(a, 0), 1);
        dueInt("over", x.block(over, 1), 3);
        dueInt("total()", x.total(), 4 * 64);
    }

    // Promise 13

    private void orders() {
        Hand h = begin("promise 13", 0);
        LimitedMesh x = h.mesh;
        int a = h.add(10, 1, on(0));
        int b = h.add(5, 2, on(0));
        dueOrder(x, 0, b, a);
        int a2 = h.add(30, 3, on(a));
        dueOrder(x, 0, a, a2, b);
        int b2 = h.add(40, 4, on(b));
        dueOrder(x, 0, a, a2, b, b2);
        int m = h.add(50, 5, on(a2, b));
        dueOrder(x, 0, a, a2, b, m, b2);
        h.make(60, 6, on(m));
        for (int place : new int[] {MIN, -1, 6, 7, 59, 60, 61, MAX}) {
            dueInt("order(" + place + ")", x.order(place), -1);
        }
    }

    // Promise 14

    private void unspentFollowsTheOrder() {
        Hand h = begin("promise 14", 0);
        LimitedMesh x = h.mesh;
        int toOne = h.pay(100, 0, G, 1, 60, 2, 4);
        int toOther = h.pay(100, 0, G, 3, 50);
        int behind = h.pay(toOne, 0, 1, 4, 59);
        int a = h.add(10, 8, on(0), toOne, behind);
        dueInt("spent", x.unspent(100, 0), -1);
        dueInt("spent within the block", x.unspent(toOne, 0), -1);
        dueInt("unspent(toOne, 1)", x.unspent(toOne, 1), 4);
        dueInt("unspent(behind, 0)", x.unspent(behind, 0), 59);
        dueInt("there is no output 1", x.unspent(behind, 1), -1);
        dueInt("with the fee", x.unspent(100 + a, 0), 65);
        int b = h.add(20, 9, on(0), toOther);
        dueInt("the other side comes later", x.unspent(toOther, 0), -1);
        dueInt("and is red", x.unspent(100 + b, 0), -1);
        dueInt("count(6)", x.count(6), 2);
        int b2 = h.add(30, 9, on(b));
        dueInt("now it comes first", x.unspent(toOther, 0), 50);
        dueInt("toOne is not accepted any more", x.unspent(toOne, 1), -1);
        dueInt("nor what was behind it", x.unspent(behind, 0), -1);
        dueInt("unspent of a", x.unspent(100 + a, 0), -1);
        dueInt("unspent of b", x.unspent(100 + b, 0), 78);
        dueInt("unspent of b2", x.unspent(100 + b2, 0), 64);
        dueInt("count(6)", x.count(6), 1);
        dueInt("total()", x.total(), 50 + 78 + 64);
        for (int source : new int[] {MIN, -100, -1, 3, 39, 40, 79, 80, 99, 140, 160, 164, MAX}) {
            dueInt("unspent(" + source + ", 0)", x.unspent(source, 0), -1);
        }
        for (int output : new int[] {MIN, -1, 1, 2, MAX}) {
            dueInt("unspent(toOther, " + output + ")", x.unspent(toOther, output), -1);
            dueInt("unspent(100 + b2, " + output + ")", x.unspent(100 + b2, output), -1);
        }
    }

    private void unspentRewardsHalve() {
        Hand h = begin("promise 14, rewards", 0);
        LimitedMesh x = h.mesh;
        int total = 64;
        for (int b = 1; b < 60; b++) {
            h.add(b, b, on(b - 1));
            int reward = new int[] {64, 32, 16, 8, 4, 2, 1, 0}[b / 8];
            total += reward;
            dueInt("unspent(" + (100 + b) + ", 0)", x.unspent(100 + b, 0), reward);
        }
        dueInt("total()", x.total(), total);
        dueInt("count(7)", x.count(7), 60);
        dueInt("block(59, 1)", x.block(59, 1), 59);
        dueInt("block(59, 3)", x.block(59, 3), 59);
        dueInt("order(59)", x.order(59), 59);
        // An output with nothing in it is there too.
        dueInt("submit", x.submit(h.pay(156, 0, 56, 1, 0)), 0);
        // The reward is by the block's own SCORE, not by its place in the order.
        Hand wide = begin("promise 14, rewards", 0);
        for (int b = 1; b <= 7; b++) {
            wide.add(b, b, on(0));
        }
        int m = wide.add(8, 8, on(1, 2, 3, 4));
        int n = wide.add(9, 9, on(m, 5, 6, 7));
        dueOrder(wide.mesh, 0, 1, 2, 3, 4, m, 5, 6, 7, n);
        dueInt("SCORE of n", wide.mesh.block(n, 1), 3);
        dueInt("unspent of n", wide.mesh.unspent(100 + n, 0), 64);
    }

    private void feesGoToBlueBlocks() {
        Hand h = begin("promise 14, fees", 1);
        LimitedMesh x = h.mesh;
        int t = h.pay(100, 0, G, 1, 30, 2, 24);
        int one = h.pay(t, 0, 1, 3, 20);
        int other = h.pay(t, 1, 2, 4, 24);
        int tooMuch = h.pay(t, 1, 2, 4, 25);
        int a = h.add(10, 8, on(0), t);
        dueInt("fee of 10", x.unspent(100 + a, 0), 74);
        int b = h.add(11, 9, on(a), tooMuch, one, other);
        dueInt("fees of 10 and 0", x.unspent(100 + b, 0), 74);
        dueInt("not accepted", x.count(6), 3);
        int fee = h.pay(one, 0, 3, 5, 1);
        int c = h.add(12, 10, on(b));
        int red = h.add(13, 11, on(0), fee);
        dueInt("it is red", x.block(red, 0), 1);
        dueInt("what it has is accepted", x.unspent(fee, 0), 1);
        dueInt("it has no output", x.unspent(100 + red, 0), -1);
        dueInt("the fee is lost", x.total(), 74 + 74 + 64 + 24 + 1);
        dueInt("unspent of c", x.unspent(100 + c, 0), 64);
        // A reward can be spent behind its block, by its secret.
        int spendRed = h.pay(100 + red, 0, 11, 1, 1);
        int spendC = h.pay(100 + c, 0, 10, 1, 64);
        dueInt("a red block's output is not there", x.submit(spendRed), -3);
        dueInt("a blue one's is", x.submit(spendC), 0);
    }

    private void outputsOfNothing() {
        Hand h = begin("promise 14, nothing", 0);
        LimitedMesh x = h.mesh;
        int t = h.pay(100, 0, G, 1, 0, 2, 0);
        int behind = h.pay(t, 0, 1, 3, 0);
        int joined = h.join(on(t, 1, 2), on(behind, 0, 3), 4, 0);
        int a = h.add(10, 8, on(0), t);
        dueInt("unspent(t, 0)", x.unspent(t, 0), 0);
        dueInt("unspent(t, 1)", x.unspent(t, 1), 0);
        dueInt("all is the fee", x.unspent(100 + a, 0), 128);
        h.add(11, 9, on(a), joined, behind);
        dueInt("before its source", x.unspent(joined, 0), -1);
        dueInt("spent though nothing was in it", x.unspent(t, 0), -1);
        dueInt("submit(joined)", x.submit(joined), 0);
        dueInt("total()", x.total(), 192);
    }

    private void acceptedOnce() {
        Hand h = begin("promise 14, ACCEPTED", 4);
        LimitedMesh x = h.mesh;
        int t = h.pay(100, 0, G, 1, 60);
        int back = h.pay(t, 0, 1, 2, 60);
        int a = h.add(10, 8, on(0), t);
        int b = h.add(20, 9, on(0), t, back);
        dueOrder(x, 0, a, b);
        dueInt("the fee is the first block's", x.unspent(100 + a, 0), 68);
        dueInt("the second has none", x.unspent(100 + b, 0), 64);
        dueInt("what is behind it is accepted there", x.unspent(back, 0), 60);
        dueInt("count(6)", x.count(6), 2);
        dueInt("submit(t)", x.submit(t), -2);
        int c = h.add(30, 7, on(a, b), t, back);
        dueInt("spent outputs do not come back", x.unspent(t, 0), -1);
        dueInt("unspent of c", x.unspent(100 + c, 0), 64);
        dueInt("total()", x.total(), 60 + 68 + 64 + 64);
    }

    // Promise 15

    private void poolDropsWhatIsOver() {
        Hand h = begin("promise 15", 0);
        LimitedMesh x = h.mesh;
        int first = h.pay(100, 0, G, 1, 30, 2, 34);
        int left = h.pay(first, 0, 1, 3, 30);
        int right = h.pay(first, 1, 2, 4, 34);
        int rival = h.pay(100, 0, G, 5, 64);
        for (int t : new int[] {first, right, left}) {
            dueInt("submit", x.submit(t), 0);
        }
        duePool(x, first, right, left);
        int unknown = h.make(9, 9, on(0));
        int orphan = h.make(8, 8, on(unknown), rival);
        dueInt("an orphan does not touch the pool", x.receive(orphan), 1);
        duePool(x, first, right, left);
        dueInt("receive", x.receive(unknown), 0);
        duePool(x);
        dueInt("submit", x.submit(first), -3);
        dueInt("submit", x.submit(rival), -2);
    }

    private void poolKeepsWhatStillHolds() {
        Hand h = begin("promise 15", 0);
        LimitedMesh x = h.mesh;
        int a = h.add(20, 6, on(0));
        int first = h.pay(100, 0, G, 1, 30, 2, 34);
        int left = h.pay(first, 0, 1, 3, 30);
        int reward = h.pay(100 + a, 0, 6, 4, 64);
        int right = h.pay(first, 1, 2, 4, 34);
        int rivalOfLeft = h.pay(first, 0, 1, 5, 1);
        int behindLeft = h.pay(left, 0, 3, 7, 7);
        int behindReward = h.pay(reward, 0, 4, 7, 7);
        for (int t : new int[] {first, left, reward, right, behindLeft, behindReward}) {
            dueInt("submit", x.submit(t), 0);
        }
        h.add(21, 7, on(a), first, rivalOfLeft);
        duePool(x, reward, right, behindReward);
        // A longer side makes a red: its reward is gone, and what was behind it.
        int b = h.add(30, 8, on(0), first);
        int b2 = h.add(31, 8, on(b));
        h.add(32, 8, on(b2));
        dueInt("a is red", x.block(a, 0), 1);
        duePool(x, right);
        dueInt("it may come again", x.submit(reward), -3);
        dueInt("pool(1)", x.pool(1), -1);
    }

    private void poolIsLookedAtOnceAtTheEnd() {
        Hand h = begin("promise 15", 0);
        LimitedMesh x = h.mesh;
        int a = h.add(20, 6, on(0));
        int reward = h.pay(100 + a, 0, 6, 4, 64);
        dueInt("submit", x.submit(reward), 0);
        int b = h.make(30, 7, on(0));
        int b2 = h.make(31, 7, on(b));
        int over = h.make(32, 7, on(a));
        int over2 = h.make(33, 7, on(over, b));
        dueInt("receive", x.receive(over), 0);
        dueInt("receive", x.receive(over2), 1);
        dueInt("receive", x.receive(b2), 1);
        dueInt("b and both orphans", x.receive(b), 0);
        dueInt("a is blue at the end", x.block(a, 0), 2);
        duePool(x, reward);
        // Between b2 and over3, a is red for a while, within one call.
        Hand g = begin("promise 15", 0);
        LimitedMesh y = g.mesh;
        int c = g.add(20, 6, on(0));
        int spend = g.pay(100 + c, 0, 6, 4, 64);
        dueInt("submit", y.submit(spend), 0);
        int d = g.make(30, 7, on(0));
        int d2 = g.make(31, 7, on(d));
        int c2 = g.make(32, 7, on(c, d));
        int c3 = g.make(33, 7, on(c2));
        int c4 = g.make(34, 7, on(c3));
        for (int orphan : new int[] {d2, c2, c3, c4}) {
            dueInt("receive", y.receive(orphan), 1);
        }
        dueInt("d and all orphans", y.receive(d), 0);
        dueInt("c is blue at the end", y.block(c, 0), 2);
        dueInt("d is red", y.block(d, 0), 1);
        duePool(y, spend);
    }

    // Promise 16

    private void wantedBlocks() {
        Hand h = begin("promise 16", 4);
        LimitedMesh x = h.mesh;
        for (int i = 1; i <= 6; i++) {
            h.make(i, i, on(0));
        }
        int high = h.make(7, 7, on(6, 2));
        int low = h.make(8, 8, on(2, 0, 1));
        int behind = h.make(9, 9, on(high, 3));
        dueWanted(x);
        dueInt("receive", x.receive(high), 1);
        dueWanted(x, 2, 6);
        dueInt("receive", x.receive(low), 1);
        dueWanted(x, 1, 2, 6);
        dueInt("receive", x.receive(behind), 1);
        dueWanted(x, 1, 2, 3, 6);
        for (int k : new int[] {MIN, -1, 4, 5, 60, MAX}) {
            dueInt("wanted(" + k + ")", x.wanted(k), -1);
        }
        dueInt("receive(2)", x.receive(2), 0);
        dueWanted(x, 1, 3, 6);
        dueInt("receive(6)", x.receive(6), 0);
        dueInt("high is in the DAG", x.block(high, 0), 2);
        dueWanted(x, 1, 3);
        int over = h.make(10, 10, on(behind));
        dueInt("receive", x.receive(over), 1);
        dueWanted(x, 1, 3);
        int lone = h.make(11, 11, on(4, 5));
        int more = h.make(12, 12, on(5));
        dueInt("receive", x.receive(lone), 1);
        dueWanted(x, 1, 3, 4, 5);
        dueInt("low is dropped", x.receive(more), 1);
        dueWanted(x, 3, 4, 5);
        dueInt("an orphan that is dropped is wanted again", x.receive(low), 1);
        dueInt("behind is dropped", x.block(behind, 0), 0);
        dueWanted(x, 1, 4, 5, behind);
    }

    // Promise 17

    private void parentsOf() {
        Hand h = begin("promise 17", 0);
        LimitedMesh x = h.mesh;
        h.add(1, 1, on(0));
        h.add(2, 2, on(0));
        int known = h.add(3, 3, on(2, 1));
        int unknown = h.make(4, 4, on(known));
        int lone = h.make(5, 5, on(unknown, 1, known, 2));
        int[][] due = {{}, {0}, {0}, {2, 1}, {known}, {unknown, 1, known, 2}};
        dueInt("receive", x.receive(lone), 1);
        for (int b = 0; b < due.length; b++) {
            for (int k = 0; k < due[b].length; k++) {
                dueInt("parentOf(" + b + ", " + k + ")", x.parentOf(b, k), due[b][k]);
            }
            for (int k : new int[] {MIN, -1, due[b].length, 4, 5, MAX}) {
                dueInt("parentOf(" + b + ", " + k + ")", x.parentOf(b, k), -1);
            }
        }
        for (int b : new int[] {MIN, -1, 6, 59, 60, MAX}) {
            dueInt("parentOf(" + b + ", 0)", x.parentOf(b, 0), -1);
        }
    }

    // Promise 18

    private void counts() {
        Hand h = begin("promise 18", 0);
        LimitedMesh x = h.mesh;
        int first = h.pay(100, 0, G, 1, 30, 2, 34);
        int second = h.pay(first, 0, 1, 3, 30);
        int third = h.pay(first, 1, 2, 3, 30);
        int a = h.add(20, 5, on(0), first);
        dueInt("submit", x.submit(second), 0);
        dueInt("submit", x.submit(third), 0);
        h.add(10, 6, on(0));
        int c = h.add(30, 7, on(a), third);
        int unknown = h.make(40, 8, on(0));
        dueInt("receive", x.receive(h.make(41, 9, on(unknown))), 1);
        dueInt("receive", x.receive(h.make(42, 9, on(unknown))), 1);
        dueInt("receive", x.receive(h.make(43, 9, on(unknown))), 1);
        dueCounts(x, 3, 8, 4, 2, 3, 1, 2, 3, c, h.idOf(third));
        for (int what : new int[] {MIN, -1, 10, 11, MAX}) {
            dueInt("count(" + what + ")", x.count(what), -1);
        }
        dueInt("receive", x.receive(unknown), 0);
        dueCounts(x, 3, 8, 8, 5, 0, 1, 2, 3);
    }

    // Promise 19

    private void totals() {
        Hand h = begin("promise 19", 0);
        LimitedMesh x = h.mesh;
        int t = h.pay(100, 0, G, 1, 20, 2, 30);
        dueInt("submit", x.submit(t), 0);
        dueInt("the pool does not count", x.total(), 64);
        int a = h.add(20, 5, on(0), t);
        dueInt("20, 30 and 64 with the fee of 14", x.total(), 128);
        h.add(30, 6, on(0));
        dueInt("a red block adds nothing", x.total(), 128);
        h.add(40, 7, on(a), h.pay(t, 0, 1, 3, 0));
        dueInt("a blue one adds its reward", x.total(), 192);
        h.add(21, 8, on(0), h.pay(t, 1, 2, 3, 10));
        dueInt("a red one's fee is lost", x.total(), 172);
    }
}
