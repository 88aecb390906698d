/** The sentences of promises 1 to 9 that name a boundary, each with a test of its own. */
public final class EdgesOfMakingTest extends ByHand {
    private static final int BOUND = Hand.GOOD_BELOW;

    public static void main(String[] args) {
        EdgesOfMakingTest test = new EdgesOfMakingTest();
        test.kIsOfTheLowestBitsModuloFive();
        test.inputOfNoSuchSource();
        test.inputOfTheLastSources();
        test.inputOutputIsNot0To1();
        test.inputOutputOfABlockIsNot0();
        test.inputIsNotLookedAtInTheTransaction();
        test.inputTwoAreThere();
        test.inputTakesAnySecret();
        test.outputAmountIs0To1000();
        test.outputTwoAreThere();
        test.outputTakesAnySecret();
        test.transactionWithoutInput();
        test.transactionWithoutOutput();
        test.transactionFortyAreThere();
        test.transactionBeginsANewOne();
        test.parentOfNoSuchBlock();
        test.parentKnownOrNot();
        test.parentIsOneAlready();
        test.parentFourAreThere();
        test.includeOfNoneSuch();
        test.includeIsInItAlready();
        test.includeThreeAreThere();
        test.makeTakesTheFirstNonceOfForty();
        test.makeTakesTheLastOfFortyIfNoneIsRight();
        test.makeCountsNoncesAround();
        test.makeWithoutParent();
        test.makeSixtyAreThere();
        test.makeBeginsANewOne();
        test.clearOfNothing();
        test.clearOfAllThatFits();
        test.clearOfEachOfTheFour();
        test.clearLeavesWhatIsMade();
        test.templateSixtyAreThere();
        test.templateOfOneTip();
        test.templateOfFourTips();
        test.templateOfFiveTips();
        test.templateOfFiftySevenTips();
        test.templateOfEqualScoresTheEarlier();
        test.templateOfThePoolsFirstThree();
        test.templateNonceAsWithMake();
        test.templateLeavesWhatIsBeingMade();
        test.check.end();
    }

    // Promise 1

    private void kIsOfTheLowestBitsModuloFive() {
        int[] farther = {MIN, MIN + 1, MIN + 4, MIN + 5, MIN + 255, MAX, MAX - 1, MAX - 255, 1 << 16, 65535, -65536};
        for (int k = -520; k <= 520; k++) {
            dueK(k);
        }
        for (int k : farther) {
            dueK(k);
        }
    }

    private void dueK(int given) {
        Hand h = begin("promise 1: '(k & 255) % 5' of " + given, given);
        int lowest = given >= 0 ? given % 256 : 255 - (-1 - given) % 256;
        for (int b = 1; b <= 6; b++) {
            h.add(b, b, on(0));
        }
        // Of brothers K + 1 are blue, and the genesis.
        dueInt("count(7)", h.mesh.count(7), lowest % 5 + 2);
    }

    // Promise 2

    private void inputOfNoSuchSource() {
        Hand h = begin("promise 2: 'no such source'", 0);
        LimitedMesh x = h.mesh;
        for (int source : new int[] {MIN, MIN + 99, MIN + 100, -101, -100, -1, 0, 1, 39, 40, 59, 60, 99, 101, 159, 160,
            MAX}) {
            dueFalse("input(" + source + ", 0, 1) on a new object", x.input(source, 0, 1));
        }
        h.pay(100, 0, G, 1, 1);
        h.make(1, 1, on(0));
        dueFalse("the transaction behind the last", x.input(1, 0, 1));
        dueFalse("the block behind the last", x.input(102, 0, 1));
        dueTrue("the last transaction", x.input(0, 0, 1));
        dueTrue("the last block", x.input(101, 0, 1));
    }

    private void inputOfTheLastSources() {
        Hand h = begin("promise 2: the last source of all", 0);
        LimitedMesh x = h.mesh;
        for (int t = 0; t < 40; t++) {
            h.pay(100, 0, G, 1, t);
        }
        for (int b = 1; b < 60; b++) {
            h.make(b, b, on(0));
        }
        for (int source : new int[] {-1, 40, 41, 99, 160, 161}) {
            dueFalse("input(" + source + ", 0, 1)", x.input(source, 0, 1));
        }
        dueTrue("input(39, 0, 1)", x.input(39, 0, 1));
        dueTrue("input(159, 0, 1)", x.input(159, 0, 1));
    }

    private void inputOutputIsNot0To1() {
        Hand h = begin("promise 2: 'output is not 0 .. 1'", 0);
        LimitedMesh x = h.mesh;
        h.pay(100, 0, G, 1, 30, 2, 34);
        for (int output : new int[] {MIN, -2, -1, 2, 3, 256, 1 << 16, MAX}) {
            dueFalse("input(0, " + output + ", 1)", x.input(0, output, 1));
        }
        dueTrue("input(0, 1, 2)", x.input(0, 1, 2));
        dueTrue("input(0, 0, 1)", x.input(0, 0, 1));
    }

    private void inputOutputOfABlockIsNot0() {
        Hand h = begin("promise 2: 'of a block: not 0'", 0);
        LimitedMesh x = h.mesh;
        h.make(1, 1, on(0));
        for (int block : new int[] {100, 101}) {
            for (int output : new int[] {MIN, -1, 1, 2, MAX}) {
                dueFalse("input(" + block + ", " + output + ", 1)", x.input(block, output, 1));
            }
        }
        dueTrue("input(100, 0, 1)", x.input(100, 0, 1));
        dueTrue("input(101, 0, 1)", x.input(101, 0, 1));
    }

    private void inputIsNotLookedAtInTheTransaction() {
        Hand h = begin("promise 2: 'whether the transaction has it is not looked at'", 0);
        LimitedMesh x = h.mesh;
        int single = h.pay(100, 0, G, 1, 64);
        dueTrue("output 1 of a transaction with one", x.input(single, 1, 1));
        dueTrue("output", x.output(1, 0));
        dueInt("transaction()", x.transaction(), 1);
        dueInt("submit", x.submit(single), 0);
        dueInt("it is not accepted", x.submit(1), -3);
    }

    private void inputTwoAreThere() {
        Hand h = begin("promise 2: 'or two are there'", 0);
        LimitedMesh x = h.mesh;
        dueTrue("the first", x.input(100, 0, G));
        dueTrue("the second, the same", x.input(100, 0, G));
        dueFalse("the third", x.input(100, 0, G));
        dueFalse("the third again", x.input(100, 0, 1));
        dueTrue("output", x.output(1, 1));
        dueInt("transaction()", x.transaction(), 0);
        int id = Hand.mix(Hand.mix(Hand.mix(11, h.hashOf(0)), 0), G);
        id = Hand.mix(Hand.mix(Hand.mix(id, h.hashOf(0)), 0), G);
        dueInt("two are in it", x.count(9), Hand.mix(Hand.mix(id, Hand.mix(7, 1)), 1));
        dueTrue("a new one has room for one", x.input(0, 0, 1));
        dueTrue("and for two", x.input(0, 1, 1));
        dueFalse("not for three", x.input(0, 1, 1));
    }

    private void inputTakesAnySecret() {
        Hand h = begin("promise 2: any secret", 0);
        for (int secret : new int[] {MIN, MIN + 1, -1, 0, 1, MAX}) {
            h.pay(100, 0, secret, 1, 1);
        }
    }

    // Promise 3

    private void outputAmountIs0To1000() {
        Hand h = begin("promise 3: 'amount is not 0 .. 1000'", 0);
        LimitedMesh x = h.mesh;
        for (int amount : new int[] {MIN, MIN + 1000, -1000, -1, 1001, 1024, 65536, MAX}) {
            dueFalse("output(1, " + amount + ")", x.output(1, amount));
        }
        dueTrue("input", x.input(100, 0, G));
        dueInt("none of them is there", x.transaction(), -1);
        dueTrue("output(1, 0)", x.output(1, 0));
        dueTrue("output(2, 1000)", x.output(2, 1000));
        dueInt("transaction()", x.transaction(), 0);
        int id = Hand.mix(Hand.mix(Hand.mix(11, h.hashOf(0)), 0), G);
        id = Hand.mix(Hand.mix(id, Hand.mix(7, 1)), 0);
        dueInt("the amounts are in it", x.count(9), Hand.mix(Hand.mix(id, Hand.mix(7, 2)), 1000));
        h.noteId(x.count(9));
        h.pay(100, 0, G, 1, 1, 2, 999);
    }

    private void outputTwoAreThere() {
        Hand h = begin("promise 3: 'or two are there'", 0);
        LimitedMesh x = h.mesh;
        dueTrue("the first", x.output(1, 1));
        dueTrue("the second, the same", x.output(1, 1));
        dueFalse("the third", x.output(1, 1));
        dueFalse("the third again", x.output(2, 0));
        dueTrue("input", x.input(100, 0, G));
        dueInt("transaction()", x.transaction(), 0);
        int id = Hand.mix(Hand.mix(Hand.mix(11, h.hashOf(0)), 0), G);
        id = Hand.mix(Hand.mix(id, Hand.mix(7, 1)), 1);
        dueInt("two are in it", x.count(9), Hand.mix(Hand.mix(id, Hand.mix(7, 1)), 1));
        dueTrue("a new one has room for one", x.output(1, 1));
        dueTrue("and for two", x.output(1, 1));
        dueFalse("not for three", x.output(1, 1));
    }

    private void outputTakesAnySecret() {
        Hand h = begin("promise 3: 'its lock is MIX(7, secret)'", 0);
        for (int secret : new int[] {MIN, MIN + 1, -1, 0, 1, MAX}) {
            h.pay(100, 0, G, secret, 1);
        }
    }

    // Promise 4

    private void transactionWithoutInput() {
        Hand h = begin("promise 4: 'it has no input'", 0);
        LimitedMesh x = h.mesh;
        dueInt("with nothing", x.transaction(), -1);
        dueTrue("output", x.output(1, 1));
        dueInt("with an output", x.transaction(), -1);
        dueTrue("output", x.output(2, 2));
        dueInt("with two outputs", x.transaction(), -1);
        dueInt("count(0)", x.count(0), 0);
        dueInt("count(9)", x.count(9), 0);
        dueTrue("input", x.input(100, 0, G));
        dueInt("transaction()", x.transaction(), 0);
        int id = Hand.mix(Hand.mix(Hand.mix(11, h.hashOf(0)), 0), G);
        id = Hand.mix(Hand.mix(id, Hand.mix(7, 1)), 1);
        dueInt("both outputs stayed", x.count(9), Hand.mix(Hand.mix(id, Hand.mix(7, 2)), 2));
    }

    private void transactionWithoutOutput() {
        Hand h = begin("promise 4: 'no output'", 0);
        LimitedMesh x = h.mesh;
        dueTrue("input", x.input(100, 0, 3));
        dueInt("with an input", x.transaction(), -1);
        dueTrue("input", x.input(100, 0, 4));
        dueInt("with two inputs", x.transaction(), -1);
        dueInt("count(0)", x.count(0), 0);
        dueTrue("output", x.output(1, 1));
        dueInt("transaction()", x.transaction(), 0);
        int id = Hand.mix(Hand.mix(Hand.mix(11, h.hashOf(0)), 0), 3);
        id = Hand.mix(Hand.mix(Hand.mix(id, h.hashOf(0)), 0), 4);
        dueInt("both inputs stayed", x.count(9), Hand.mix(Hand.mix(id, Hand.mix(7, 1)), 1));
    }

    private void transactionFortyAreThere() {
        Hand h = begin("promise 4: 'or forty are there'", 0);
        LimitedMesh x = h.mesh;
        for (int t = 0; t < 39; t++) {
            h.pay(100, 0, G, 1, t);
        }
        dueInt("the fortieth", h.pay(100, 0, G, 1, 39), 39);
        dueTrue("input", x.input(39, 0, 1));
        dueTrue("output", x.output(1, 1));
        dueInt("the 41st", x.transaction(), -1);
        dueInt("the 41st again", x.transaction(), -1);
        dueTrue("it is still being made: input", x.input(39, 1, 1));
        dueFalse("two are there", x.input(39, 1, 1));
        dueTrue("it is still being made: output", x.output(1, 1));
        dueFalse("two are there", x.output(1, 1));
        dueInt("count(0)", x.count(0), 40);
        dueFalse("it is no source", x.input(40, 0, 1));
        dueFalse("it can't be included", x.include(40));
        x.clear();
        dueInt("nor when nothing is being made", x.transaction(), -1);
    }

    private void transactionBeginsANewOne() {
        Hand h = begin("promise 4: 'a new one is begun'", 0);
        LimitedMesh x = h.mesh;
        h.join(on(100, 0, 1), on(100, 0, 2), 3, 3, 4, 4);
        dueTrue("input", x.input(100, 0, G));
        dueInt("the outputs of the one before are not in it", x.transaction(), -1);
        dueTrue("output", x.output(5, 5));
        dueInt("transaction()", x.transaction(), 1);
        int id = Hand.mix(Hand.mix(Hand.mix(11, h.hashOf(0)), 0), G);
        dueInt("nor are its inputs", x.count(9), Hand.mix(Hand.mix(id, Hand.mix(7, 5)), 5));
        dueTrue("output", x.output(5, 5));
        dueInt("nor those of this one in the next", x.transaction(), -1);
    }

    // Promise 5

    private void parentOfNoSuchBlock() {
        Hand h = begin("promise 5: 'no such block'", 0);
        LimitedMesh x = h.mesh;
        for (int block : new int[] {MIN, -64, -1, 1, 59, 60, 63, 64, 100, MAX}) {
            dueFalse("parent(" + block + ") on a new object", x.parent(block));
        }
        for (int b = 1; b < 60; b++) {
            h.make(b, b, on(b - 1));
        }
        dueFalse("parent(60)", x.parent(60));
        dueFalse("parent(-1)", x.parent(-1));
        dueTrue("parent(59)", x.parent(59));
        dueTrue("parent(0)", x.parent(0));
    }

    private void parentKnownOrNot() {
        Hand h = begin("promise 5: 'known to the node or not'", 0);
        LimitedMesh x = h.mesh;
        int known = h.add(1, 1, on(0));
        int unknown = h.make(2, 2, on(0));
        int orphan = h.make(3, 3, on(unknown));
        int wrong = h.makeWrong(BOUND, 4, on(0));
        dueInt("receive", x.receive(orphan), 1);
        for (int block : on(known, unknown, orphan, wrong)) {
            dueTrue("parent(" + block + ")", x.parent(block));
        }
        dueInt("make", x.make(5, h.nonceFor(5, 5, on(known, unknown, orphan, wrong))), 5);
        dueParents(x, 5, known, unknown, orphan, wrong);
    }

    private void parentIsOneAlready() {
        Hand h = begin("promise 5: 'it is one already'", 0);
        LimitedMesh x = h.mesh;
        for (int b = 1; b <= 3; b++) {
            h.make(b, b, on(0));
        }
        for (int b = 0; b <= 3; b++) {
            dueTrue("parent(" + b + ")", x.parent(b));
            for (int before = 0; before <= b; before++) {
                dueFalse("parent(" + before + ") again", x.parent(before));
            }
        }
        int made = x.make(4, h.nonceFor(4, 4, on(0, 1, 2, 3)));
        dueParents(x, made, 0, 1, 2, 3);
        dueTrue("in a new block it is not", x.parent(3));
    }

    private void parentFourAreThere() {
        Hand h = begin("promise 5: 'or four are there'", 0);
        LimitedMesh x = h.mesh;
        for (int b = 1; b <= 5; b++) {
            h.make(b, b, on(0));
        }
        h.put(on(5, 4, 3, 2));
        dueFalse("a fifth", x.parent(1));
        dueFalse("a fifth again", x.parent(0));
        dueInt("make", x.make(6, h.nonceFor(6, 6, on(5, 4, 3, 2))), 6);
        dueInt("the hash is that of four", x.block(6, 5), 6);
        dueParents(x, 6, 5, 4, 3, 2);
    }

    // Promise 6

    private void includeOfNoneSuch() {
        Hand h = begin("promise 6: 'there is none such'", 0);
        LimitedMesh x = h.mesh;
        for (int transaction : new int[] {MIN, -1, 0, 1, 39, 40, 100, MAX}) {
            dueFalse("include(" + transaction + ") on a new object", x.include(transaction));
        }
        for (int t = 0; t < 40; t++) {
            dueFalse("not yet", x.include(t));
            h.pay(100, 0, G, 1, t);
        }
        dueFalse("include(40)", x.include(40));
        dueFalse("include(-1)", x.include(-1));
        dueTrue("include(39)", x.include(39));
        dueTrue("include(0)", x.include(0));
    }

    private void includeIsInItAlready() {
        Hand h = begin("promise 6: 'it is in it already'", 0);
        LimitedMesh x = h.mesh;
        for (int t = 0; t <= 2; t++) {
            h.pay(100, 0, G, 1, t);
        }
        for (int t = 0; t <= 2; t++) {
            dueTrue("include(" + t + ")", x.include(t));
            for (int before = 0; before <= t; before++) {
                dueFalse("include(" + before + ") again", x.include(before));
            }
        }
        dueTrue("parent", x.parent(0));
        dueInt("make", x.make(4, h.nonceFor(4, 4, on(0), 0, 1, 2)), 1);
        dueInt("the hash is that of three", x.block(1, 5), 4);
        dueTrue("in a new block it is not", x.include(2));
    }

    private void includeThreeAreThere() {
        Hand h = begin("promise 6: 'or three are there'", 0);
        LimitedMesh x = h.mesh;
        for (int t = 0; t <= 4; t++) {
            h.pay(100, 0, G, 1, t);
        }
        h.put(on(0), 4, 3, 2);
        dueFalse("a fourth", x.include(1));
        dueFalse("a fourth again", x.include(0));
        dueInt("make", x.make(4, h.nonceFor(4, 4, on(0), 4, 3, 2)), 1);
        dueInt("the hash is that of three", x.block(1, 5), 4);
    }

    // Promise 7

    private void makeTakesTheFirstNonceOfForty() {
        Hand h = begin("promise 7: 'the first nonce from a beginning on, of 40'", 0);
        LimitedMesh x = h.mesh;
        int right = h.nonceFor(0, 3, on(0));
        for (int before = 0; before < 40; before++) {
            h.put(on(0));
            int made = x.make(3, right - before);
            dueInt("the nonce " + before + " behind the beginning", x.block(made, 5), 0);
        }
        h.put(on(0));
        int made = x.make(3, h.nonceFor(8, 3, on(0)));
        dueInt("the first, though the next are right too", x.block(made, 5), 8);
    }

    private void makeTakesTheLastOfFortyIfNoneIsRight() {
        Hand h = begin("promise 7: 'if there is none, the last of these'", 0);
        LimitedMesh x = h.mesh;
        int right = h.nonceFor(0, 3, on(0));
        for (int before = 40; before < 44; before++) {
            h.put(on(0));
            int made = x.make(3, right - before);
            int last = 39 - before;
            dueInt("the nonce 39 behind the beginning", x.block(made, 5), (last ^ last >>> 13) & MAX);
            dueInt("its work is not right", x.receive(made), -2);
        }
        h.put(on(0));
        int made = x.make(3, right - 39);
        dueInt("the last one is right", x.receive(made), 0);
    }

    private void makeCountsNoncesAround() {
        int[][] nonces = {{MAX, MAX}, {MAX, MIN}, {MAX - 38, MIN}, {MAX, MIN + 38}, {MAX - 20, MIN + 18}, {-1, 0},
            {-39, 0}, {-20, 19}, {MIN, MIN}, {MIN, MIN + 39}};
        for (int[] nonce : nonces) {
            Hand h = begin("promise 7: nonces from " + nonce[0] + " to " + nonce[1], 0);
            LimitedMesh x = h.mesh;
            int secret = h.secretFor(0, nonce[1], on(0));
            h.put(on(0));
            dueInt("make", x.make(secret, nonce[0]), 1);
            dueInt("its hash", x.block(1, 5), 0);
            dueInt("template", x.template(secret, nonce[0]), 2);
            dueInt("its hash", x.block(2, 5), 0);
        }
        Hand h = begin("promise 7: the last nonce beyond the greatest number", 0);
        int secret = h.secretFor(0, MIN + 39, on(0));
        h.put(on(0));
        dueInt("make", h.mesh.make(secret, MAX), 1);
        int last = -1;
        dueInt("its hash", h.mesh.block(1, 5), (last ^ last >>> 13) & MAX);
    }

    private void makeWithoutParent() {
        Hand h = begin("promise 7: 'it has no parent'", 0);
        LimitedMesh x = h.mesh;
        dueInt("with nothing", x.make(1, 1), -1);
        h.pay(100, 0, G, 1, 1);
        h.pay(100, 0, G, 1, 2);
        h.put(on(), 1, 0);
        dueInt("with transactions", x.make(1, 1), -1);
        dueInt("count(1)", x.count(1), 1);
        h.put(on(0));
        dueInt("make", x.make(4, h.nonceFor(4, 4, on(0), 1, 0)), 1);
        dueInt("both transactions stayed", x.block(1, 5), 4);
    }

    private void makeSixtyAreThere() {
        Hand h = begin("promise 7: 'or sixty are there'", 0);
        LimitedMesh x = h.mesh;
        h.pay(100, 0, G, 1, 1);
        for (int b = 1; b < 59; b++) {
            h.make(b, b, on(0));
        }
        dueInt("the sixtieth", h.make(59, 59, on(58)), 59);
        h.put(on(59, 58), 0);
        dueInt("the 61st", x.make(1, 1), -1);
        dueInt("the 61st again", x.make(1, 2), -1);
        dueFalse("it is still being made: parent", x.parent(58));
        dueFalse("it is still being made: transaction", x.include(0));
        dueTrue("a third parent", x.parent(1));
        dueTrue("a fourth parent", x.parent(2));
        dueFalse("a fifth parent", x.parent(3));
        dueInt("count(1)", x.count(1), 60);
        dueInt("no block of that number", x.block(60, 5), -1);
        x.clear();
        dueInt("nor when nothing is being made", x.make(1, 1), -1);
    }

    private void makeBeginsANewOne() {
        Hand h = begin("promise 7: 'a new one is begun'", 0);
        LimitedMesh x = h.mesh;
        for (int t = 0; t < 3; t++) {
            h.pay(100, 0, G, 1, t);
        }
        for (int b = 1; b <= 3; b++) {
            h.make(b, b, on(0));
        }
        h.make(4, 4, on(3, 2, 1, 0), 2, 1, 0);
        dueInt("no parent of the one before is in it", x.make(5, 5), -1);
        h.make(5, 5, on(2));
        dueParents(x, 5, 2);
        h.make(6, 6, on(0), 2);
        dueTrue("input", x.input(100, 0, G));
        dueTrue("output", x.output(7, 7));
        h.make(7, 7, on(0));
        dueInt("the transaction that is being made stayed", x.transaction(), 3);
    }

    // Promise 8

    private void clearOfNothing() {
        Hand h = begin("promise 8: clear() of nothing", 0);
        LimitedMesh x = h.mesh;
        x.clear();
        x.clear();
        dueCounts(x, 0, 1, 1, 1, 0, 0, 0, 1, 0, 0);
        dueInt("transaction()", x.transaction(), -1);
        dueInt("make", x.make(1, 1), -1);
        h.pay(100, 0, G, 1, 1);
        h.make(1, 1, on(0), 0);
    }

    private void clearOfAllThatFits() {
        Hand h = begin("promise 8: clear() of all that fits", 0);
        LimitedMesh x = h.mesh;
        for (int i = 0; i < 3; i++) {
            h.pay(100, 0, G, 1, i);
            h.make(i, i, on(0));
        }
        for (int turn = 0; turn < 2; turn++) {
            dueTrue("input", x.input(100, 0, 1));
            dueTrue("input", x.input(100, 0, 2));
            dueTrue("output", x.output(1, 1));
            dueTrue("output", x.output(2, 2));
            h.put(on(0, 1, 2, 3), 0, 1, 2);
            x.clear();
        }
        dueInt("transaction()", x.transaction(), -1);
        dueInt("make", x.make(1, 1), -1);
        h.join(on(0, 0, 1), on(1, 1, 2), 3, 3, 4, 4);
        h.make(9, 9, on(3, 2, 1, 0), 3, 2, 1);
    }

    private void clearOfEachOfTheFour() {
        Hand h = begin("promise 8: 'the transaction's inputs and outputs, the block's parents and transactions'", 0);
        LimitedMesh x = h.mesh;
        h.pay(100, 0, G, 1, 1);
        dueTrue("input", x.input(100, 0, 1));
        x.clear();
        dueTrue("output", x.output(1, 1));
        dueInt("the input is away", x.transaction(), -1);
        x.clear();
        dueTrue("input", x.input(100, 0, 1));
        dueInt("the output is away", x.transaction(), -1);
        x.clear();
        dueTrue("parent", x.parent(0));
        x.clear();
        dueInt("the parent is away", x.make(1, 1), -1);
        dueTrue("include", x.include(0));
        x.clear();
        h.make(2, 2, on(0));
        dueTrue("the transaction was away: its hash is that of none", x.include(0));
    }

    private void clearLeavesWhatIsMade() {
        Hand h = begin("promise 8: what was made stays", 0);
        LimitedMesh x = h.mesh;
        int t = h.pay(100, 0, G, 1, 60);
        int behind = h.pay(t, 0, 1, 2, 60);
        h.add(1, 1, on(0), t);
        dueInt("submit", x.submit(behind), 0);
        int unknown = h.make(2, 2, on(0));
        int orphan = h.make(3, 3, on(unknown));
        dueInt("receive", x.receive(orphan), 1);
        x.clear();
        dueCounts(x, 2, 4, 2, 1, 1, 1, 1, 2, 1, h.idOf(behind));
        duePool(x, behind);
        dueWanted(x, unknown);
        dueInt("total()", x.total(), 128);
        dueParents(x, orphan, unknown);
    }

    // Promise 9

    private void templateSixtyAreThere() {
        Hand h = begin("promise 9: '-1, refused, if sixty are there'", 0);
        LimitedMesh x = h.mesh;
        for (int b = 1; b < 59; b++) {
            h.make(b, b, on(0));
        }
        dueInt("the sixtieth", x.template(1, h.nonceFor(59, 1, on(0))), 59);
        h.put(on(0, 1, 2, 3));
        dueInt("the 61st", x.template(1, 1), -1);
        dueInt("the 61st again", x.template(2, 2), -1);
        dueFalse("what is being made stays", x.parent(4));
        dueInt("count(1)", x.count(1), 60);
        dueInt("the sixtieth can be received", x.receive(59), 0);
        dueInt("the 61st after that", x.template(3, 3), -1);
    }

    private void templateOfOneTip() {
        Hand h = begin("promise 9: 'parents the tips', one", 4);
        LimitedMesh x = h.mesh;
        dueInt("template", x.template(1, h.nonceFor(1, 1, on(0))), 1);
        h.note(1);
        dueParents(x, 1, 0);
        dueInt("it is not received by that", x.block(1, 0), 0);
        dueInt("template again on the same", x.template(2, h.nonceFor(2, 2, on(0))), 2);
        dueParents(x, 2, 0);
        dueInt("receive", x.receive(1), 0);
        dueInt("template", x.template(3, h.nonceFor(3, 3, on(1))), 3);
        dueParents(x, 3, 1);
    }

    private void templateOfFourTips() {
        Hand h = begin("promise 9: 'parents the tips', four", 4);
        LimitedMesh x = h.mesh;
        for (int b = 1; b <= 4; b++) {
            h.add(10 - b, b, on(0));
        }
        dueInt("template", x.template(1, h.nonceFor(1, 1, on(4, 3, 2, 1))), 5);
        dueParents(x, 5, 4, 3, 2, 1);
        dueInt("the hash takes them in this order", x.block(5, 5), 1);
    }

    private void templateOfFiveTips() {
        for (int least = 1; least <= 5; least++) {
            Hand h = begin("promise 9: 'of more than four those with the greatest SCORE', not tip " + least, 4);
            LimitedMesh x = h.mesh;
            int[] feet = new int[6];
            for (int i = 1; i <= 5; i++) {
                feet[i] = i == least ? 0 : h.add(100 - i, i, on(0));
            }
            int[] tips = new int[6];
            for (int i = 1; i <= 5; i++) {
                tips[i] = h.add(i == least ? 1 : 20 + i, i, on(feet[i]));
            }
            int made = x.template(1, 1);
            int[] due = new int[4];
            int at = 0;
            for (int i = 1; i <= 5; i++) {
                if (i != least) {
                    due[at++] = tips[i];
                }
            }
            dueParents(x, made, due);
        }
    }

    private void templateOfFiftySevenTips() {
        Hand h = begin("promise 9: of very many tips four", 4);
        LimitedMesh x = h.mesh;
        for (int b = 1; b <= 57; b++) {
            h.add(b <= 53 ? 1000 + b : 900 - b, b, on(0));
        }
        dueInt("count(3)", x.count(3), 57);
        dueInt("template", x.template(1, h.nonceFor(1, 1, on(57, 56, 55, 54))), 58);
        dueParents(x, 58, 57, 56, 55, 54);
        dueInt("its hash", x.block(58, 5), 1);
        dueInt("receive", x.receive(58), 0);
        dueInt("count(3)", x.count(3), 54);
    }

    private void templateOfEqualScoresTheEarlier() {
        Hand h = begin("promise 9: 'of equal ones the EARLIER'", 4);
        LimitedMesh x = h.mesh;
        int[] hashes = {0, 7, 8, 7, 6, 7};
        for (int b = 1; b <= 5; b++) {
            h.make(hashes[b], b, on(0));
        }
        for (int b = 5; b >= 1; b--) {
            dueInt("receive(" + b + ")", x.receive(b), 0);
        }
        dueInt("template", x.template(1, 1), 6);
        dueParents(x, 6, 4, 1, 3, 5);
    }

    private void templateOfThePoolsFirstThree() {
        for (int pooled = 0; pooled <= 5; pooled++) {
            Hand h = begin("promise 9: 'the first three transactions of the pool' of " + pooled, 0);
            LimitedMesh x = h.mesh;
            // The first of the pool is not the one with the least number.
            int split = h.pay(100, 0, G, 1, 30, 1, 34);
            h.add(1, 1, on(0), split);
            int[] made = {h.pay(split, 0, 1, 2, 30), h.pay(split, 1, 1, 2, 34), 0, 0, 0};
            for (int i = 2; i < 5; i++) {
                made[i] = h.pay(made[i - 1], 0, 2, 2, 34);
            }
            int[] coming = {made[1], made[0], made[2], made[3], made[4]};
            for (int i = 0; i < pooled; i++) {
                dueInt("submit", x.submit(coming[i]), 0);
            }
            int[] taken = new int[Math.min(pooled, 3)];
            System.arraycopy(coming, 0, taken, 0, taken.length);
            dueInt("template", x.template(1, h.nonceFor(5, 1, on(1), taken)), 2);
            dueInt("its hash", x.block(2, 5), 5);
            dueInt("the pool stays", x.count(5), pooled);
            dueInt("receive", x.receive(2), 0);
            dueInt("what is over stays", x.count(5), pooled - taken.length);
        }
    }

    private void templateNonceAsWithMake() {
        Hand h = begin("promise 9: 'secret and nonce as with make()'", 0);
        LimitedMesh x = h.mesh;
        int right = h.nonceFor(0, 3, on(0));
        dueInt("the first nonce", x.block(x.template(3, right), 5), 0);
        dueInt("the fortieth nonce", x.block(x.template(3, right - 39), 5), 0);
        int late = x.template(3, right - 40);
        int last = -1;
        dueInt("the fortieth though it is wrong", x.block(late, 5), (last ^ last >>> 13) & MAX);
        dueInt("receive", x.receive(late), -2);
        dueInt("receive", x.receive(1), 0);
        dueInt("it is locked for the secret", x.submit(h.pay(100, 0, G, 1, 64)), 0);
        h.note(0);
        dueInt("it is locked for the secret", x.submit(h.pay(101, 0, 3, 1, 64)), 0);
    }

    private void templateLeavesWhatIsBeingMade() {
        Hand h = begin("promise 9: 'What is being made stays'", 4);
        LimitedMesh x = h.mesh;
        for (int t = 0; t < 3; t++) {
            h.pay(100, 0, G, 1, t);
        }
        for (int b = 1; b <= 3; b++) {
            h.add(b, b, on(0));
        }
        dueInt("submit", x.submit(2), 0);
        h.put(on(3, 0, 2, 1), 1, 2, 0);
        dueTrue("input", x.input(100, 0, 5));
        dueTrue("input", x.input(101, 0, 6));
        dueTrue("output", x.output(7, 8));
        dueTrue("output", x.output(9, 10));
        dueInt("template", x.template(1, h.nonceFor(1, 1, on(1, 2, 3), 2)), 4);
        dueInt("its hash", x.block(4, 5), 1);
        dueInt("transaction()", x.transaction(), 3);
        int id = Hand.mix(Hand.mix(Hand.mix(11, h.hashOf(0)), 0), 5);
        id = Hand.mix(Hand.mix(Hand.mix(id, 1), 0), 6);
        id = Hand.mix(Hand.mix(id, Hand.mix(7, 7)), 8);
        dueInt("the ID of what stayed", x.count(9), Hand.mix(Hand.mix(id, Hand.mix(7, 9)), 10));
        dueInt("make", x.make(2, h.nonceFor(33, 2, on(3, 0, 2, 1), 1, 2, 0)), 5);
        dueInt("the hash of what stayed", x.block(5, 5), 33);
        dueParents(x, 5, 3, 0, 2, 1);
    }
}
