import java.math.BigInteger;

/** The sentences of the document's Terms that name a boundary, each with a test of its own. */
public final class EdgesOfTermsTest extends ByHand {
    private static final int BOUND = Hand.GOOD_BELOW;

    public static void main(String[] args) {
        EdgesOfTermsTest test = new EdgesOfTermsTest();
        test.answersUpToThe512thCall();
        test.mixWraps();
        test.sourcesAreNumbers();
        test.fortyTransactions();
        test.oneOrTwoInputs();
        test.oneOrTwoOutputs();
        test.secretOpensItsLockAlone();
        test.sixtyBlocks();
        test.oneToFourParents();
        test.upToThreeTransactions();
        test.genesisHasNothing();
        test.hashIsTheLowest31Bits();
        test.workBelowTheBound();
        test.workOfTheGenesisDoesNotMatter();
        test.earlierByHash();
        test.earlierByNumberIfHashesAreEqual();
        test.dagAtFirst();
        test.tipsAreNoParents();
        test.genesisHasNoBlues();
        test.selectedIsTheGreatestScore();
        test.selectedOfSeveralIsTheEarliest();
        test.mergedLeavesOutSelectedAndItsPast();
        test.mergedByRisingScore();
        test.mergedOfEqualScoreTheEarlierFirst();
        test.bluesWithKOfTheirOwn();
        test.bluesWithKOfAnother();
        test.bluesOfBrothers();
        test.acceptedIfNotBefore();
        test.acceptedIfNotBeforeWithNothing();
        test.acceptedIfThere();
        test.acceptedIfUnspent();
        test.acceptedIfDifferent();
        test.acceptedIfSecretsOpen();
        test.acceptedIfAmountsAreAtMostTheirs();
        test.acceptedUpToTheGreatestAmount();
        test.acceptedWithNothing();
        test.amountHalvesByScore();
        test.amountIsByTheBlocksOwnScore();
        test.amountIsNothingFrom56On();
        test.noOutputOfRedBlocks();
        test.feesOfAllThatIsAcceptedInABlock();
        test.feesOfRedBlocksAreLost();
        test.poolHasAtMostEight();
        test.poolBehindThoseBefore();
        test.poolIsDroppedFromTheFirstOn();
        test.orphansAreAtMostFour();
        test.check.end();
    }

    /** MIX as the document tells it, in numbers without a bound. */
    private static int mixOf(int a, int b) {
        BigInteger t = BigInteger.valueOf(a).multiply(BigInteger.valueOf(668265263)).add(BigInteger.valueOf(b));
        BigInteger wrapped = t.mod(BigInteger.ONE.shiftLeft(32));
        return wrapped.xor(wrapped.shiftRight(13)).intValue();
    }

    private void answersUpToThe512thCall() {
        Hand h = begin("'at most 512 calls'", 0);
        LimitedMesh x = h.mesh;
        for (int t = 0; t < 40; t++) {
            h.pay(t == 0 ? 100 : t - 1, 0, t == 0 ? G : 1, 1, 64);
        }
        for (int b = 1; b < 60; b++) {
            h.add(b, b, on(b - 1));
        }
        while (x.callsLeft() > 5) {
            dueInt("total() in between", x.total(), 1016);
        }
        dueFalse("call 508", x.input(40, 0, 0));
        dueInt("call 509", x.submit(0), 0);
        dueInt("call 510", x.template(0, 0), -1);
        dueInt("call 511", x.unspent(159, 0), 0);
        dueInt("call 512", x.count(7), 60);
    }

    private void mixWraps() {
        int[] edges = {0, 1, 2, 5, 13, 7777777, 1 << 13, 1 << 30, MAX - 1, MAX, MIN, MIN + 1, -1, -2, -8192, -1 << 30};
        for (int secret : edges) {
            Hand h = begin("'wrapping'", 0);
            LimitedMesh x = h.mesh;
            int genesis = mixOf(mixOf(13, 0), 0) & MAX;
            dueInt("HASH of the genesis", x.block(0, 5), genesis);
            dueTrue("input", x.input(100, 0, secret));
            dueTrue("output", x.output(secret, 1000));
            dueInt("transaction()", x.transaction(), 0);
            int id = mixOf(mixOf(mixOf(11, genesis), 0), secret);
            id = mixOf(mixOf(id, mixOf(7, secret)), 1000);
            dueInt("ID with the secret " + secret, x.count(9), id);
            h.noteId(id);
            dueTrue("parent", x.parent(0));
            dueTrue("include", x.include(0));
            int content = mixOf(mixOf(mixOf(13, genesis), id), mixOf(7, secret));
            int hash = 0;
            // The nonce counts on beyond the greatest number too.
            for (int i = 0; i == 0 || i < 40 && hash >= BOUND; i++) {
                hash = mixOf(content, secret + i) & MAX;
            }
            dueInt("make", x.make(secret, secret), 1);
            dueInt("HASH with the secret and nonce " + secret, x.block(1, 5), hash);
        }
    }

    private void sourcesAreNumbers() {
        Hand h = begin("'A SOURCE is a transaction (its number) or a block (100 + its number)'", 0);
        LimitedMesh x = h.mesh;
        dueTrue("input of the genesis", x.input(100, 0, G));
        dueTrue("output", x.output(5, 64));
        dueInt("transaction()", x.transaction(), 0);
        h.noteId(x.count(9));
        int block = h.add(3, 3, on(0), 0);
        dueTrue("input of the block", x.input(100 + block, 0, 3));
        dueTrue("input of the transaction", x.input(0, 0, 5));
        dueTrue("output", x.output(6, 128));
        dueInt("transaction()", x.transaction(), 1);
        int id = mixOf(mixOf(mixOf(11, 3), 0), 3);
        id = mixOf(mixOf(mixOf(id, h.idOf(0)), 0), 5);
        dueInt("ID with the HASH and the ID of the sources", x.count(9), mixOf(mixOf(id, mixOf(7, 6)), 128));
        dueInt("submit", x.submit(1), 0);
    }

    private void fortyTransactions() {
        Hand h = begin("'TRANSACTIONS .. at most 40'", 0);
        LimitedMesh x = h.mesh;
        for (int t = 0; t < 40; t++) {
            dueInt("count(0)", x.count(0), t);
            dueInt("the number", h.pay(100, 0, G, 1, t), t);
        }
        dueTrue("input", x.input(100, 0, G));
        dueTrue("output", x.output(1, 40));
        dueInt("the 41st", x.transaction(), -1);
        dueInt("count(0)", x.count(0), 40);
        dueInt("the last one's ID", x.count(9), h.idOf(39));
        dueInt("the last one", x.submit(39), 0);
        dueInt("none behind it", x.submit(40), -1);
    }

    private void oneOrTwoInputs() {
        Hand h = begin("'1 or 2 INPUTS'", 0);
        LimitedMesh x = h.mesh;
        int split = h.pay(100, 0, G, 1, 30, 2, 34);
        dueTrue("output", x.output(3, 30));
        dueInt("without an input", x.transaction(), -1);
        dueTrue("one", x.input(split, 0, 1));
        dueInt("with one", x.transaction(), 1);
        dueTrue("one", x.input(split, 0, 1));
        dueTrue("two", x.input(split, 1, 2));
        dueFalse("three", x.input(100, 0, G));
        dueTrue("output", x.output(3, 64));
        dueInt("with two", x.transaction(), 2);
        dueInt("submit", x.submit(split), 0);
        dueInt("the third did not come to them", x.submit(2), 0);
    }

    private void oneOrTwoOutputs() {
        Hand h = begin("'1 or 2 outputs'", 0);
        LimitedMesh x = h.mesh;
        dueTrue("input", x.input(100, 0, G));
        dueInt("without an output", x.transaction(), -1);
        dueTrue("one", x.output(1, 30));
        dueInt("with one", x.transaction(), 0);
        h.noteId(x.count(9));
        dueTrue("input", x.input(0, 0, 1));
        dueTrue("one", x.output(1, 10));
        dueTrue("two", x.output(2, 20));
        dueFalse("three", x.output(3, 30));
        dueInt("with two", x.transaction(), 1);
        h.noteId(x.count(9));
        h.add(5, 5, on(0), 0, 1);
        dueInt("the first output", x.unspent(1, 0), 10);
        dueInt("the second output", x.unspent(1, 1), 20);
        dueInt("no third one", x.unspent(1, 2), -1);
    }

    private void secretOpensItsLockAlone() {
        for (int secret : new int[] {0, 1, -1, MAX, MIN, G}) {
            Hand h = begin("'A secret s opens an output whose lock is MIX(7, s)'", 0);
            LimitedMesh x = h.mesh;
            dueInt("submit", x.submit(h.pay(100, 0, G, secret, 64)), 0);
            for (int other : new int[] {secret + 1, secret - 1, ~secret, secret ^ 1 << 31, mixOf(7, secret)}) {
                dueInt("with " + other + " for " + secret, x.submit(h.pay(0, 0, other, 1, 64)), -3);
            }
            dueInt("with " + secret, x.submit(h.pay(0, 0, secret, 1, 64)), 0);
        }
    }

    private void sixtyBlocks() {
        Hand h = begin("'BLOCKS .. at most 60'", 0);
        LimitedMesh x = h.mesh;
        dueInt("the genesis is one of them", x.count(1), 1);
        for (int b = 1; b < 60; b++) {
            dueInt("the number", h.make(b, b, on(b - 1)), b);
        }
        dueTrue("parent", x.parent(59));
        dueInt("the 61st", x.make(1, 1), -1);
        dueInt("count(1)", x.count(1), 60);
        for (int b = 1; b < 60; b++) {
            dueInt("receive(" + b + ")", x.receive(b), 0);
        }
        dueInt("count(2)", x.count(2), 60);
        dueInt("count(7)", x.count(7), 60);
        dueInt("count(8)", x.count(8), 59);
        dueInt("none behind the last", x.receive(60), -1);
    }

    private void oneToFourParents() {
        Hand h = begin("'1 to 4 different PARENTS'", 4);
        LimitedMesh x = h.mesh;
        for (int b = 1; b <= 5; b++) {
            h.add(b, b, on(0));
        }
        dueInt("without a parent", x.make(1, 1), -1);
        dueParents(x, h.add(11, 1, on(5)), 5);
        dueParents(x, h.add(12, 2, on(2, 1)), 2, 1);
        dueParents(x, h.add(13, 3, on(3, 1, 2)), 3, 1, 2);
        dueTrue("parent(4)", x.parent(4));
        dueFalse("the same again", x.parent(4));
        dueTrue("parent(1)", x.parent(1));
        dueTrue("parent(3)", x.parent(3));
        dueFalse("one of three again", x.parent(1));
        dueTrue("parent(2)", x.parent(2));
        dueFalse("a fifth", x.parent(5));
        dueInt("make", x.make(4, h.nonceFor(14, 4, on(4, 1, 3, 2))), 9);
        dueInt("the HASH of all four", x.block(9, 5), 14);
        dueParents(x, 9, 4, 1, 3, 2);
        dueInt("receive(9)", x.receive(9), 0);
        dueInt("it MERGED three and has one SELECTED", x.block(9, 4), 3);
    }

    private void upToThreeTransactions() {
        Hand h = begin("'up to 3 different transactions'", 0);
        LimitedMesh x = h.mesh;
        for (int t = 0; t < 8; t++) {
            h.pay(t == 0 ? 100 : t - 1, 0, t == 0 ? G : t, t + 1, 64);
        }
        h.add(11, 1, on(0));
        dueInt("none in it", x.count(6), 0);
        h.add(12, 2, on(1), 0);
        dueInt("one in it", x.count(6), 1);
        h.add(13, 3, on(2), 1, 2);
        dueInt("two in it", x.count(6), 3);
        h.put(on(3), 3, 4);
        dueFalse("the same again", x.include(3));
        dueTrue("a third", x.include(5));
        dueFalse("a fourth", x.include(6));
        dueInt("make", x.make(4, h.nonceFor(14, 4, on(3), 3, 4, 5)), 4);
        dueInt("the HASH of all three", x.block(4, 5), 14);
        dueInt("receive", x.receive(4), 0);
        dueInt("three in it", x.count(6), 6);
        dueInt("the last of them", x.unspent(5, 0), 64);
    }

    private void genesisHasNothing() {
        Hand h = begin("'0 is the GENESIS, without parents and transactions, lock and nonce 0'", 0);
        LimitedMesh x = h.mesh;
        dueInt("HASH", x.block(0, 5), mixOf(mixOf(13, 0), 0) & MAX);
        dueParents(x, 0);
        dueInt("count(6)", x.count(6), 0);
        dueInt("the lock 0 is not that of the secret 0", x.submit(h.pay(100, 0, 0, 1, 1)), -3);
        dueInt("a secret whose lock is 0", mixOf(7, G), 0);
        dueInt("it opens the output", x.submit(h.pay(100, 0, G, 1, 1)), 0);
    }

    private void hashIsTheLowest31Bits() {
        Hand h = begin("'of which the lowest 31 bits'", 0);
        LimitedMesh x = h.mesh;
        int[] whole = {MIN, MIN + 1, MIN | BOUND - 1, -1 & ~BOUND & ~(1 << 30)};
        int[] parents = on(0);
        for (int i = 0; i < whole.length; i++) {
            h.put(parents);
            int b = x.make(5, h.nonceFor(whole[i], 5, parents));
            h.note(whole[i] & MAX);
            dueInt("HASH without the highest bit", x.block(b, 5), whole[i] & MAX);
            dueInt("its work is right", x.receive(b), 0);
            parents = on(b);
        }
        int greatest = h.makeWrong(MAX, 6, on(0));
        dueInt("31 bits of ones", x.block(greatest, 5), MAX);
        // A child takes the 31 bits of its parent's hash, not what was there before.
        h.add(17, 7, on(1));
    }

    private void workBelowTheBound() {
        Hand h = begin("'Its WORK is right if HASH is below 536870912'", 0);
        LimitedMesh x = h.mesh;
        dueInt("0", x.receive(h.make(0, 1, on(0))), 0);
        dueInt("536870911", x.receive(h.make(536870911, 2, on(0))), 0);
        dueInt("536870912", x.receive(h.makeWrong(536870912, 3, on(0))), -2);
        dueInt("536870913", x.receive(h.makeWrong(536870913, 4, on(0))), -2);
        dueInt("2147483647", x.receive(h.makeWrong(MAX, 5, on(0))), -2);
        dueInt("count(2)", x.count(2), 3);
    }

    private void workOfTheGenesisDoesNotMatter() {
        Hand h = begin("'that of the genesis does not matter'", 0);
        LimitedMesh x = h.mesh;
        dueTrue("it is not right", x.block(0, 5) >= BOUND);
        dueInt("it is in the DAG", x.block(0, 0), 2);
        dueInt("receive(0)", x.receive(0), -3);
        dueInt("a block upon it", x.receive(h.make(1, 1, on(0))), 0);
    }

    private void earlierByHash() {
        Hand h = begin("'that one is EARLIER that has the lesser hash'", 0);
        LimitedMesh x = h.mesh;
        h.add(BOUND - 1, 1, on(0));
        dueInt("alone", x.count(8), 1);
        h.add(BOUND - 2, 2, on(0));
        dueInt("one less", x.count(8), 2);
        h.add(1, 3, on(0));
        dueInt("1", x.count(8), 3);
        h.add(0, 4, on(0));
        dueInt("0", x.count(8), 4);
        h.add(2, 5, on(0));
        dueInt("0 before 2", x.count(8), 4);
        dueOrder(x, 0, 4, 3, 5, 2, 1);
    }

    private void earlierByNumberIfHashesAreEqual() {
        for (int[] coming : new int[][] {{1, 2, 3}, {3, 2, 1}, {2, 3, 1}}) {
            Hand h = begin("'if they are equal the one with the lesser number'", 0);
            LimitedMesh x = h.mesh;
            for (int b = 1; b <= 3; b++) {
                h.make(77, b, on(0));
            }
            for (int b : coming) {
                dueInt("receive(" + b + ")", x.receive(b), 0);
            }
            dueInt("SELECTED", x.count(8), 1);
            dueOrder(x, 0, 1, 2, 3);
            dueInt("template", x.template(5, 5), 4);
            dueParents(x, 4, 1, 2, 3);
        }
    }

    private void dagAtFirst() {
        LimitedMesh x = begin("'THE DAG .. at first the genesis'", 2).mesh;
        dueInt("count(2)", x.count(2), 1);
        dueInt("count(3)", x.count(3), 1);
        dueOrder(x, 0);
        dueInt("the virtual block's SCORE", x.count(7), 1);
        dueInt("the virtual block's SELECTED", x.count(8), 0);
        dueInt("the genesis is blue", x.block(0, 0), 2);
        dueInt("its output", x.unspent(100, 0), 64);
    }

    private void tipsAreNoParents() {
        Hand h = begin("'TIPS are the blocks that are no parent of a block in the DAG'", 4);
        LimitedMesh x = h.mesh;
        int a = h.add(11, 1, on(0));
        dueInt("the new block alone", x.count(3), 1);
        int b = h.add(12, 2, on(0));
        dueInt("two", x.count(3), 2);
        int unknown = h.make(13, 3, on(a, b));
        dueInt("a block that is not in the DAG takes none away", x.count(3), 2);
        int above = h.make(14, 4, on(unknown));
        dueInt("receive", x.receive(above), 1);
        dueInt("nor does an orphan", x.count(3), 2);
        h.add(15, 5, on(a));
        dueInt("a tip less, a tip more", x.count(3), 2);
        h.add(16, 6, on(a));
        dueInt("its parent was no tip any more", x.count(3), 3);
        dueInt("receive", x.receive(unknown), 0);
        dueInt("b less, the orphan more", x.count(3), 3);
    }

    private void genesisHasNoBlues() {
        LimitedMesh x = begin("'For the genesis: no BLUES, SCORE 0, nothing MERGED'", 4).mesh;
        dueInt("SCORE", x.block(0, 1), 0);
        dueInt("SELECTED", x.block(0, 2), -1);
        dueInt("place", x.block(0, 3), 0);
        dueInt("MERGED", x.block(0, 4), 0);
    }

    private void selectedIsTheGreatestScore() {
        Hand h = begin("'SELECTED is the parent with the greatest SCORE'", 4);
        LimitedMesh x = h.mesh;
        int low = h.add(1, 1, on(0));
        int a = h.add(500, 2, on(0));
        int high = h.add(600, 3, on(a));
        dueInt("of the virtual block, one more is enough", x.count(8), high);
        int over = h.add(700, 4, on(low, high));
        dueInt("of a block, though the other is earlier and first", x.block(over, 2), high);
        dueInt("its SCORE", x.block(over, 1), 4);
    }

    private void selectedOfSeveralIsTheEarliest() {
        Hand h = begin("'of several the EARLIEST'", 0);
        LimitedMesh x = h.mesh;
        int a = h.add(9, 1, on(0));
        int b = h.add(8, 2, on(0));
        int c = h.add(8, 3, on(0));
        int d = h.add(10, 4, on(0));
        dueInt("of four", x.count(8), b);
        int over = h.add(20, 5, on(d, c, a));
        dueInt("of three", x.block(over, 2), c);
        int all = h.add(21, 6, on(d, c, b, a));
        dueInt("of equal hashes the lesser number", x.block(all, 2), b);
    }

    private void mergedLeavesOutSelectedAndItsPast() {
        Hand h = begin("'MERGED are the blocks of B's past but SELECTED and its past'", 4);
        LimitedMesh x = h.mesh;
        int a = h.add(11, 1, on(0));
        dueInt("of the first block", x.block(a, 4), 0);
        int b = h.add(12, 2, on(0));
        int b2 = h.add(13, 3, on(b));
        int one = h.add(14, 4, on(a, b2));
        dueInt("a alone, for SELECTED is b2", x.block(one, 4), 1);
        int next = h.add(15, 5, on(one));
        dueInt("nothing on one parent", x.block(next, 4), 0);
        int c = h.add(16, 6, on(a));
        int c2 = h.add(17, 7, on(c));
        int two = h.add(18, 8, on(c2, next));
        dueInt("c and c2, but not a", x.block(two, 4), 2);
        dueOrder(x, 0, b, b2, a, one, next, c, c2, two);
    }

    private void mergedByRisingScore() {
        Hand h = begin("'by rising SCORE'", 4);
        LimitedMesh x = h.mesh;
        int a = h.add(100, 1, on(0));
        int a2 = h.add(101, 2, on(a));
        int a3 = h.add(102, 3, on(a2));
        int b = h.add(300, 4, on(0));
        int b2 = h.add(1, 5, on(b));
        int c = h.add(200, 6, on(0));
        int c2 = h.add(2, 7, on(c));
        dueInt("SELECTED", x.count(8), a3);
        dueOrder(x, 0, a, a2, a3, c, b, b2, c2);
    }

    private void mergedOfEqualScoreTheEarlierFirst() {
        Hand h = begin("'of equal ones the EARLIER first'", 4);
        LimitedMesh x = h.mesh;
        for (int b = 1; b <= 5; b++) {
            h.make(b == 4 ? 50 : 60, b, on(0));
        }
        h.make(100, 6, on(1));
        for (int b : new int[] {5, 3, 1, 6, 4, 2}) {
            dueInt("receive(" + b + ")", x.receive(b), 0);
        }
        dueOrder(x, 0, 1, 6, 4, 2, 3, 5);
        int over = h.add(101, 7, on(5, 3, 2, 6));
        dueInt("MERGED", x.block(over, 4), 3);
        dueOrder(x, 0, 1, 6, 2, 3, 5, over, 4);
    }

    private void bluesWithKOfTheirOwn() {
        for (int k = 0; k <= 4; k++) {
            Hand h = begin("'no block .. more than K' in the added one's anticone, K = " + k, k);
            LimitedMesh x = h.mesh;
            int first = h.make(1, 1, on(0));
            int side = h.make(900, 2, on(0));
            int top = first;
            dueInt("receive", x.receive(first), 0);
            for (int i = 2; i <= k; i++) {
                top = h.add(i, i, on(top));
            }
            dueInt("receive", x.receive(side), 0);
            // From k = 1 on, the side has k blocks of the chain beside it.
            dueInt("K are not too many", x.block(side, 0), k == 0 ? 1 : 2);
            dueInt("SCORE", x.count(7), k == 0 ? 2 : k + 2);
            top = h.add(800, 7, on(top));
            dueInt("K + 1 are", x.block(side, 0), 1);
            int over = h.add(801, 8, on(side, top));
            dueInt("SCORE of a block", x.block(over, 1), Math.max(k, 1) + 2);
            dueInt("still", x.block(side, 0), 1);
        }
    }

    private void bluesWithKOfAnother() {
        int[][] chains = {{3, 2, 1}, {4, 2, 2}, {4, 3, 1}};
        for (int[] given : chains) {
            int k = given[0];
            Hand h = begin("'no block of BLUES has more than K', K = " + k, k);
            LimitedMesh x = h.mesh;
            int top = 0;
            for (int i = 0; i < given[1]; i++) {
                top = h.add(1 + i, 1 + i, on(top));
            }
            int c = h.add(20, 20, on(0));
            int d = h.add(30, 21, on(0));
            int c2 = h.add(40, 22, on(c));
            dueInt("SELECTED", x.count(8), top);
            dueInt("c", x.block(c, 0), 2);
            dueInt("d has the chain and c beside it", x.block(d, 0), 2);
            dueInt("c2 has as many, but is one more for d", x.block(c2, 0), given[2]);
        }
    }

    private void bluesOfBrothers() {
        for (int k = 0; k <= 4; k++) {
            Hand h = begin("'each that can be added', K = " + k, k);
            LimitedMesh x = h.mesh;
            for (int b = 1; b <= 6; b++) {
                h.add(100 - b, b, on(0));
                dueInt("SCORE of the virtual block", x.count(7), 1 + Math.min(b, k + 1));
            }
            for (int b = 1; b <= 6; b++) {
                dueInt("block(" + b + ", 0)", x.block(b, 0), 6 - b <= k ? 2 : 1);
            }
        }
    }

    private void acceptedIfNotBefore() {
        Hand h = begin("'ACCEPTED, if it was not before'", 4);
        LimitedMesh x = h.mesh;
        int t = h.pay(100, 0, G, 1, 60);
        int a = h.add(1, 1, on(0), t);
        int b = h.add(2, 2, on(0), t);
        int c = h.add(3, 3, on(a, b), t);
        dueInt("count(6)", x.count(6), 1);
        dueInt("the fee comes once", x.unspent(100 + a, 0), 68);
        dueInt("unspent of b", x.unspent(100 + b, 0), 64);
        dueInt("unspent of c", x.unspent(100 + c, 0), 64);
        dueInt("total()", x.total(), 60 + 68 + 64 + 64);
    }

    private void acceptedIfNotBeforeWithNothing() {
        Hand h = begin("'ACCEPTED, if it was not before', amounts of 0", 0);
        LimitedMesh x = h.mesh;
        int t = h.pay(100, 0, G, 1, 0);
        int behind = h.pay(t, 0, 1, 2, 0);
        int a = h.add(1, 1, on(0), t, behind);
        h.add(2, 2, on(a), t);
        dueInt("what is spent does not come back", x.unspent(t, 0), -1);
        dueInt("unspent(behind, 0)", x.unspent(behind, 0), 0);
        dueInt("count(6)", x.count(6), 2);
        int last = h.pay(behind, 0, 2, 3, 0, 4, 0);
        dueInt("submit", x.submit(last), 0);
        h.add(3, 3, on(2), last);
        duePool(x);
    }

    private void acceptedIfThere() {
        Hand h = begin("'the outputs that its inputs tell are there'", 0);
        LimitedMesh x = h.mesh;
        int first = h.pay(100, 0, G, 1, 64);
        int second = h.pay(first, 0, 1, 2, 64);
        int lacking = h.pay(first, 1, 1, 2, 0);
        int a = h.add(1, 1, on(0), second, first, lacking);
        dueInt("before its source", x.unspent(second, 0), -1);
        dueInt("its source", x.unspent(first, 0), 64);
        dueInt("an output that the transaction has not", x.unspent(lacking, 0), -1);
        h.add(2, 2, on(a), second);
        dueInt("behind its source", x.unspent(second, 0), 64);
        dueInt("count(6)", x.count(6), 2);
        int red = h.add(3, 3, on(0));
        int firstLacks = h.join(on(100 + red, 0, 3), on(second, 0, 2), 3, 1);
        int lastLacks = h.join(on(second, 0, 2), on(100 + red, 0, 3), 3, 1);
        dueInt("the first of two lacks", x.submit(firstLacks), -3);
        dueInt("the last of two lacks", x.submit(lastLacks), -3);
        h.add(4, 4, on(2), firstLacks, lastLacks);
        dueInt("count(6)", x.count(6), 2);
    }

    private void acceptedIfUnspent() {
        Hand h = begin("'unspent'", 0);
        LimitedMesh x = h.mesh;
        int one = h.pay(100, 0, G, 1, 64);
        int other = h.pay(100, 0, G, 2, 64);
        int a = h.add(1, 1, on(0), one, other);
        dueInt("the first", x.unspent(one, 0), 64);
        dueInt("the second finds it spent", x.unspent(other, 0), -1);
        h.add(2, 2, on(a), other);
        dueInt("in a later block too", x.unspent(other, 0), -1);
        int firstSpent = h.join(on(100, 0, G), on(one, 0, 1), 3, 1);
        int lastSpent = h.join(on(one, 0, 1), on(100, 0, G), 3, 1);
        h.add(3, 3, on(2), firstSpent, lastSpent);
        dueInt("the first of two is spent", x.unspent(firstSpent, 0), -1);
        dueInt("the last of two is spent", x.unspent(lastSpent, 0), -1);
        dueInt("the other one is not spent by that", x.unspent(one, 0), 64);
        dueInt("count(6)", x.count(6), 1);
    }

    private void acceptedIfDifferent() {
        Hand h = begin("'and different'", 0);
        LimitedMesh x = h.mesh;
        int twice = h.join(on(100, 0, G), on(100, 0, G), 1, 64);
        int split = h.pay(100, 0, G, 1, 0, 1, 0);
        int twiceNothing = h.join(on(split, 0, 1), on(split, 0, 1), 1, 0);
        int both = h.join(on(split, 1, 1), on(split, 0, 1), 1, 0);
        int a = h.add(1, 1, on(0), twice);
        dueInt("one output twice", x.unspent(twice, 0), -1);
        dueInt("it is not spent by that", x.unspent(100, 0), 64);
        h.add(2, 2, on(a), split, twiceNothing, both);
        dueInt("twice nothing", x.unspent(twiceNothing, 0), -1);
        dueInt("two outputs of one transaction", x.unspent(both, 0), 0);
    }

    private void acceptedIfSecretsOpen() {
        Hand h = begin("'the secrets open them'", 0);
        LimitedMesh x = h.mesh;
        int wrong = h.pay(100, 0, G - 1, 1, 64);
        int split = h.pay(100, 0, G, 1, 32, 2, 32);
        int firstWrong = h.join(on(split, 0, 2), on(split, 1, 2), 3, 64);
        int lastWrong = h.join(on(split, 0, 1), on(split, 1, 1), 3, 64);
        int right = h.join(on(split, 0, 1), on(split, 1, 2), 3, 64);
        int a = h.add(1, 1, on(0), wrong, split);
        dueInt("wrong", x.unspent(wrong, 0), -1);
        int b = h.add(2, 2, on(a), firstWrong, lastWrong);
        dueInt("the first wrong", x.unspent(firstWrong, 0), -1);
        dueInt("the last wrong", x.unspent(lastWrong, 0), -1);
        h.add(3, 3, on(b), right);
        dueInt("right", x.unspent(right, 0), 64);
    }

    private void acceptedIfAmountsAreAtMostTheirs() {
        Hand h = begin("'its outputs' amounts are together at most theirs'", 0);
        LimitedMesh x = h.mesh;
        int over = h.pay(100, 0, G, 1, 65);
        int overTogether = h.pay(100, 0, G, 1, 1, 2, 64);
        int all = h.pay(100, 0, G, 1, 1, 2, 63);
        int joinedOver = h.join(on(all, 0, 1), on(all, 1, 2), 3, 64, 4, 1);
        int joined = h.join(on(all, 0, 1), on(all, 1, 2), 3, 63);
        int a = h.add(1, 1, on(0), over, overTogether, all);
        dueInt("one over", x.unspent(over, 0), -1);
        dueInt("one over together", x.unspent(overTogether, 1), -1);
        dueInt("just all", x.unspent(all, 1), 63);
        dueInt("without a fee", x.unspent(100 + a, 0), 64);
        int b = h.add(2, 2, on(a), joinedOver, joined);
        dueInt("one over two inputs", x.unspent(joinedOver, 0), -1);
        dueInt("one below", x.unspent(joined, 0), 63);
        dueInt("a fee of 1", x.unspent(100 + b, 0), 65);
    }

    private void acceptedUpToTheGreatestAmount() {
        Hand h = begin("an amount of 1000 that is accepted", 3);
        LimitedMesh x = h.mesh;
        int[] layer = on(0);
        int purse = -1;
        int held = 64;
        // Four brothers stand on four brothers, all blue, so that the SCORE rises by four from layer to layer.
        for (int reward : new int[] {64, 64, 32, 32, 16, 16, 8, 8}) {
            int[] brothers = new int[4];
            for (int j = 0; j < 4; j++) {
                brothers[j] = h.add(held + j, 7, layer);
                int[] before = purse < 0 ? on(100, 0, G) : on(purse, 0, 8);
                held = Math.min(held + reward, 1000);
                purse = h.join(before, on(100 + brothers[j], 0, 7), 8, held);
            }
            layer = brothers;
        }
        for (int t = 0; t <= purse; t += 3) {
            int[] some = t + 2 <= purse ? on(t, t + 1, t + 2) : on(t, t + 1);
            layer = on(h.add(2000 + t, 9, layer, some));
        }
        dueInt("all are accepted", x.count(6), purse + 1);
        dueInt("1000 in one output", x.unspent(purse, 0), 1000);
        dueInt("it can be spent", x.submit(h.pay(purse, 0, 8, 1, 1000)), 0);
    }

    private void acceptedWithNothing() {
        Hand h = begin("amounts of 0", 0);
        LimitedMesh x = h.mesh;
        int t = h.pay(100, 0, G, 1, 0);
        int behind = h.pay(t, 0, 1, 2, 0);
        int over = h.pay(t, 0, 1, 2, 1);
        int a = h.add(1, 1, on(0), t);
        dueInt("it is there with nothing in it", x.unspent(t, 0), 0);
        dueInt("the fee is all", x.unspent(100 + a, 0), 128);
        int b = h.add(2, 2, on(a), over, behind);
        dueInt("1 is more than nothing", x.unspent(over, 0), -1);
        dueInt("nothing out of nothing", x.unspent(behind, 0), 0);
        dueInt("spent", x.unspent(t, 0), -1);
        dueInt("no fee", x.unspent(100 + b, 0), 64);
    }

    private void amountHalvesByScore() {
        Hand h = begin("'the amount 64 >> SCORE / 8'", 0);
        LimitedMesh x = h.mesh;
        int sum = 64;
        for (int b = 1; b < 60; b++) {
            h.add(b, b, on(b - 1));
            int due = b < 8 ? 64 : b < 16 ? 32 : b < 24 ? 16 : b < 32 ? 8 : b < 40 ? 4 : b < 48 ? 2 : b < 56 ? 1 : 0;
            sum += due;
            dueInt("with SCORE " + b, x.unspent(100 + b, 0), due);
        }
        dueInt("total()", x.total(), sum);
    }

    private void amountIsByTheBlocksOwnScore() {
        Hand h = begin("'(of X)'", 0);
        LimitedMesh x = h.mesh;
        int top = 0;
        for (int i = 1; i <= 3; i++) {
            int[] reds = new int[3];
            for (int j = 0; j < 3; j++) {
                reds[j] = h.add(100 * i + j, 1, on(top));
            }
            top = h.add(100 * i + 9, 2, reds);
        }
        dueInt("its place", x.block(top, 3), 12);
        dueInt("its SCORE", x.block(top, 1), 6);
        dueInt("its amount", x.unspent(100 + top, 0), 64);
        dueInt("total()", x.total(), 64 * 7);
    }

    private void amountIsNothingFrom56On() {
        Hand h = begin("'0 if SCORE is 56 or more'", 0);
        LimitedMesh x = h.mesh;
        int t = h.pay(100, 0, G, 1, 60);
        for (int b = 1; b < 56; b++) {
            h.add(b, b, on(b - 1));
        }
        h.add(56, 56, on(55));
        h.add(57, 57, on(56), t);
        dueInt("with SCORE 55", x.unspent(155, 0), 1);
        dueInt("with SCORE 56 it is there, with nothing", x.unspent(156, 0), 0);
        dueInt("with SCORE 57 the fee alone", x.unspent(157, 0), 4);
        dueInt("nothing can be spent", x.submit(h.pay(156, 0, 56, 1, 0)), 0);
        dueInt("1 can't", x.submit(h.pay(156, 0, 56, 1, 1)), -3);
        dueInt("the fee can be", x.submit(h.pay(157, 0, 57, 1, 4)), 0);
    }

    private void noOutputOfRedBlocks() {
        Hand h = begin("'if X is in the BLUES of the virtual block'", 0);
        LimitedMesh x = h.mesh;
        int a = h.add(1, 1, on(0));
        int red = h.add(2, 2, on(0));
        dueInt("blue", x.unspent(100 + a, 0), 64);
        dueInt("red", x.unspent(100 + red, 0), -1);
        dueInt("it can't be spent", x.submit(h.pay(100 + red, 0, 2, 1, 0)), -3);
        dueInt("total()", x.total(), 128);
        h.add(3, 3, on(red));
        dueInt("red now", x.unspent(100 + a, 0), -1);
        dueInt("blue now", x.unspent(100 + red, 0), 64);
    }

    private void feesOfAllThatIsAcceptedInABlock() {
        Hand h = begin("'the fees of the transactions that were accepted in X'", 4);
        LimitedMesh x = h.mesh;
        int t = h.pay(100, 0, G, 1, 30, 2, 30);
        int one = h.pay(t, 0, 1, 3, 28);
        int other = h.pay(t, 1, 2, 3, 30);
        int notAccepted = h.pay(t, 0, 1, 4, 0);
        int later = h.pay(other, 0, 3, 4, 23);
        int a = h.add(1, 1, on(0), t, one, other);
        int b = h.add(2, 2, on(0), one, notAccepted);
        int c = h.add(3, 3, on(a, b), one, later, notAccepted);
        dueInt("of three: 4, 2 and 0", x.unspent(100 + a, 0), 70);
        dueInt("of none, for they are accepted before or not at all", x.unspent(100 + b, 0), 64);
        dueInt("of one of three", x.unspent(100 + c, 0), 71);
    }

    private void feesOfRedBlocksAreLost() {
        Hand h = begin("'Otherwise the fees are lost'", 0);
        LimitedMesh x = h.mesh;
        int t = h.pay(100, 0, G, 1, 60);
        int a = h.add(1, 1, on(0));
        int red = h.add(2, 2, on(0), t);
        int next = h.add(3, 3, on(a, red));
        dueInt("it is accepted all the same", x.unspent(t, 0), 60);
        dueInt("unspent of the red one", x.unspent(100 + red, 0), -1);
        dueInt("the fee does not come to the block before", x.unspent(100 + a, 0), 64);
        dueInt("nor to the next", x.unspent(100 + next, 0), 64);
        dueInt("total()", x.total(), 188);
    }

    private void poolHasAtMostEight() {
        Hand h = begin("'THE POOL has at most 8 transactions'", 0);
        LimitedMesh x = h.mesh;
        for (int t = 0; t < 10; t++) {
            h.pay(t == 0 ? 100 : t - 1, 0, t == 0 ? G : t, t + 1, 64);
        }
        for (int t = 0; t < 8; t++) {
            dueInt("submit(" + t + ")", x.submit(t), 0);
            dueInt("count(5)", x.count(5), t + 1);
        }
        dueInt("the ninth", x.submit(8), -4);
        duePool(x, 0, 1, 2, 3, 4, 5, 6, 7);
        h.add(1, 1, on(0), 0);
        dueInt("seven are there again", x.submit(8), 0);
        dueInt("eight are there again", x.submit(9), -4);
        duePool(x, 1, 2, 3, 4, 5, 6, 7, 8);
    }

    private void poolBehindThoseBefore() {
        Hand h = begin("'behind the whole ORDER and those before it in the pool'", 0);
        LimitedMesh x = h.mesh;
        int first = h.pay(100, 0, G, 1, 64);
        int behind = h.pay(first, 0, 1, 2, 64);
        int rival = h.pay(100, 0, G, 3, 64);
        int last = h.add(1, 1, on(0));
        int ofLast = h.pay(100 + last, 0, 1, 3, 64);
        dueInt("its source is not there", x.submit(behind), -3);
        dueInt("submit", x.submit(first), 0);
        dueInt("its source is before it", x.submit(behind), 0);
        dueInt("its source is spent before it", x.submit(rival), -3);
        dueInt("the last block's output", x.submit(ofLast), 0);
        duePool(x, first, behind, ofLast);
    }

    private void poolIsDroppedFromTheFirstOn() {
        Hand h = begin("'dropped, one after the other from the first one on'", 0);
        LimitedMesh x = h.mesh;
        for (int t = 0; t < 8; t++) {
            h.pay(t == 0 ? 100 : t - 1, 0, t == 0 ? G : t, t + 1, 64);
            dueInt("submit", x.submit(t), 0);
        }
        int rival = h.pay(100, 0, G, 9, 64);
        int a = h.add(9, 1, on(0), 0, 1);
        duePool(x, 2, 3, 4, 5, 6, 7);
        int b = h.add(8, 2, on(0), rival);
        // The rival is before them now: all go, though each lacks but the one before it.
        duePool(x);
        dueInt("none comes back by itself", x.receive(h.make(7, 3, on(a))), 0);
        duePool(x);
        dueInt("the rival is red", x.block(b, 0), 1);
        dueInt("it may be submitted again", x.submit(2), 0);
    }

    private void orphansAreAtMostFour() {
        Hand h = begin("'ORPHANS are at most 4 blocks'", 0);
        LimitedMesh x = h.mesh;
        int lacking = h.make(1, 1, on(0));
        for (int i = 1; i <= 6; i++) {
            int orphan = h.make(10 + i, i, on(lacking));
            dueInt("receive", x.receive(orphan), 1);
            dueInt("count(4)", x.count(4), Math.min(i, 4));
        }
        dueInt("the two that waited longest are away", x.receive(lacking), 0);
        dueInt("count(2)", x.count(2), 6);
        dueInt("count(4)", x.count(4), 0);
    }
}
