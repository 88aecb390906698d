/** The sentences of promises 10 to 19 that name a boundary, each with a test of its own. */
public final class EdgesOfNodeTest extends ByHand {
    private static final int BOUND = Hand.GOOD_BELOW;

    public static void main(String[] args) {
        EdgesOfNodeTest test = new EdgesOfNodeTest();
        test.receiveOfNoSuchBlock();
        test.receiveOfWrongWork();
        test.receiveWrongWorkComesFirst();
        test.receiveOfWhatIsInTheDag();
        test.receiveOfAnOrphanAgain();
        test.receiveOfOverlappingParents();
        test.receiveOverlapOnlyIfAllParentsAreThere();
        test.receiveOrphanIfAParentLacks();
        test.receiveFifthOrphanDropsTheLongestWaiting();
        test.receiveRefusalsDropNoOrphan();
        test.receiveAddsOrphansAsOftenAsThereIsOne();
        test.receiveDropsAnOrphanWithOverlap();
        test.submitOfNoneSuch();
        test.submitOfWhatIsInThePool();
        test.submitOfWhatIsAccepted();
        test.submitOfWhatWouldNotBeAccepted();
        test.submitEightAreThere();
        test.submitFirstOfTheRefusals();
        test.blockOfNoSuchBlock();
        test.blockOfNoSuchWhat();
        test.blockOutsideTheDag();
        test.blockOfTheGenesis();
        test.blockOfTheLastBlock();
        test.orderAtItsEnds();
        test.unspentOfWhatIsNotThere();
        test.unspentOfNothing();
        test.unspentOfTheLastSources();
        test.poolAtItsEnds();
        test.wantedAtItsEnds();
        test.wantedOfTheLastBlocks();
        test.wantedLeavesOutDagAndOrphans();
        test.parentOfAtItsEnds();
        test.countOfAnotherWhat();
        test.countIdOfNone();
        test.countsAtTheirGreatest();
        test.countOfManyTips();
        test.totalOfNothingMore();
        test.totalAtItsGreatest();
        test.check.end();
    }

    // Promise 10

    private void receiveOfNoSuchBlock() {
        Hand h = begin("promise 10: '-1 there is no such block'", 0);
        LimitedMesh x = h.mesh;
        for (int block : new int[] {MIN, -64, -1, 1, 59, 60, 63, 64, 100, 164, MAX}) {
            dueInt("receive(" + block + ") on a new object", x.receive(block), -1);
        }
        for (int b = 1; b < 60; b++) {
            h.make(b, b, on(0));
        }
        dueInt("receive(60)", x.receive(60), -1);
        dueInt("receive(-1)", x.receive(-1), -1);
        dueInt("receive(59)", x.receive(59), 0);
    }

    private void receiveOfWrongWork() {
        Hand h = begin("promise 10: '-2 its work is not right'", 0);
        LimitedMesh x = h.mesh;
        int right = h.make(BOUND - 1, 1, on(0));
        int wrong = h.makeWrong(BOUND, 2, on(0));
        dueInt("one too much", x.receive(wrong), -2);
        dueInt("again", x.receive(wrong), -2);
        dueInt("it is unknown", x.block(wrong, 0), 0);
        dueInt("just right", x.receive(right), 0);
        int above = h.make(3, 3, on(wrong));
        dueInt("its child lacks a parent", x.receive(above), 1);
        dueWanted(x, wrong);
        dueInt("though it is wanted", x.receive(wrong), -2);
        dueInt("the child waits", x.block(above, 0), 3);
    }

    private void receiveWrongWorkComesFirst() {
        Hand h = begin("promise 10: -2 before 1 and -4", 0);
        LimitedMesh x = h.mesh;
        int a = h.add(1, 1, on(0));
        int unknown = h.make(2, 2, on(0));
        dueInt("a parent lacks", x.receive(h.makeWrong(BOUND, 3, on(unknown))), -2);
        dueInt("the parents overlap", x.receive(h.makeWrong(BOUND, 4, on(a, 0))), -2);
        dueInt("count(4)", x.count(4), 0);
        dueWanted(x);
    }

    private void receiveOfWhatIsInTheDag() {
        Hand h = begin("promise 10: '-3 it is in the DAG'", 0);
        LimitedMesh x = h.mesh;
        dueInt("the genesis", x.receive(0), -3);
        int a = h.add(1, 1, on(0));
        int red = h.add(2, 2, on(0));
        int next = h.make(3, 3, on(a));
        int above = h.make(4, 4, on(next));
        dueInt("receive", x.receive(above), 1);
        dueInt("receive", x.receive(next), 0);
        for (int block : on(0, a, red, next, above)) {
            dueInt("receive(" + block + ") again", x.receive(block), -3);
        }
        dueInt("count(2)", x.count(2), 5);
    }

    private void receiveOfAnOrphanAgain() {
        Hand h = begin("promise 10: '-3 .. or an orphan already'", 0);
        LimitedMesh x = h.mesh;
        int lacking = h.make(1, 1, on(0));
        int[] orphans = new int[5];
        for (int i = 0; i < 5; i++) {
            orphans[i] = h.make(10 + i, i, on(lacking));
        }
        for (int i = 0; i < 4; i++) {
            dueInt("receive", x.receive(orphans[i]), 1);
            for (int j = 0; j <= i; j++) {
                dueInt("receive again", x.receive(orphans[j]), -3);
            }
        }
        dueInt("count(4)", x.count(4), 4);
        // To come again does not make the waiting shorter.
        dueInt("the first again", x.receive(orphans[0]), -3);
        dueInt("a fifth", x.receive(orphans[4]), 1);
        dueInt("the first was dropped", x.block(orphans[0], 0), 0);
        dueInt("it is none any more", x.receive(orphans[0]), 1);
    }

    private void receiveOfOverlappingParents() {
        Hand h = begin("promise 10: '-4 .. a parent is in the past of another one'", 4);
        LimitedMesh x = h.mesh;
        int a = h.add(1, 1, on(0));
        int a2 = h.add(2, 2, on(a));
        int a3 = h.add(3, 3, on(a2));
        int b = h.add(4, 4, on(0));
        int c = h.add(5, 5, on(0));
        int[][] overlapping = {{0, a}, {a, 0}, {a, a2}, {a2, a}, {a, a3}, {a3, a}, {0, a3}, {b, 0}, {b, a, a3},
            {b, c, a, a2}, {a2, b, c, a3}, {b, c, a3, 0}, {0, b, c, a3}};
        int hash = 100;
        for (int[] parents : overlapping) {
            int made = h.make(hash++, 9, parents);
            dueInt("receive", x.receive(made), -4);
            dueInt("receive again", x.receive(made), -4);
            dueInt("it is unknown", x.block(made, 0), 0);
        }
        int[][] apart = {{a3, b}, {c, b, a}, {b, a3, c}};
        for (int[] parents : apart) {
            dueInt("receive of others", x.receive(h.make(hash++, 9, parents)), 0);
        }
        dueInt("one parent is never in its own past", x.receive(h.make(hash, 9, on(0))), 0);
    }

    private void receiveOverlapOnlyIfAllParentsAreThere() {
        Hand h = begin("promise 10: '-4 (all its parents are there)'", 4);
        LimitedMesh x = h.mesh;
        int a = h.add(1, 1, on(0));
        int unknown = h.make(2, 2, on(0));
        int late = h.make(3, 3, on(0, a, unknown));
        int byUnknown = h.make(4, 4, on(0, unknown));
        dueInt("two overlap, a third lacks", x.receive(late), 1);
        dueInt("the one whose past it is lacks", x.receive(byUnknown), 1);
        dueInt("receive of what lacked", x.receive(unknown), 0);
        dueInt("both are dropped", x.count(4), 0);
        dueInt("now it is refused", x.receive(late), -4);
        dueInt("and the other", x.receive(byUnknown), -4);
        dueInt("count(2)", x.count(2), 3);
    }

    private void receiveOrphanIfAParentLacks() {
        Hand h = begin("promise 10: '1: it becomes an orphan, a parent lacks'", 4);
        LimitedMesh x = h.mesh;
        for (int b = 1; b <= 4; b++) {
            h.make(b, b, on(0));
        }
        int four = h.make(10, 9, on(1, 2, 3, 4));
        dueInt("four lack", x.receive(four), 1);
        for (int b : on(4, 1, 3)) {
            dueInt("receive(" + b + ")", x.receive(b), 0);
            dueInt("it waits", x.block(four, 0), 3);
        }
        int last = h.make(11, 9, on(3, 2));
        dueInt("the last one lacks", x.receive(last), 1);
        int orphan = h.make(12, 9, on(four));
        dueInt("an orphan is not there", x.receive(orphan), 1);
        dueInt("receive(2)", x.receive(2), 0);
        for (int b : on(four, last, orphan)) {
            dueInt("it is in the DAG", x.block(b, 0), 2);
        }
    }

    private void receiveFifthOrphanDropsTheLongestWaiting() {
        Hand h = begin("promise 10: 'the one that has waited longest is dropped for it, if four are there'", 4);
        LimitedMesh x = h.mesh;
        int lacking = h.make(1, 1, on(0));
        int other = h.make(2, 2, on(0));
        int[] o = new int[8];
        for (int i = 0; i < 8; i++) {
            o[i] = h.make(100 - i, 3, i == 1 ? on(other) : on(lacking));
        }
        for (int i : on(5, 1, 4, 2)) {
            dueInt("receive", x.receive(o[i]), 1);
        }
        for (int i : on(5, 1, 4, 2)) {
            dueInt("four wait", x.block(o[i], 0), 3);
        }
        dueInt("a fifth", x.receive(o[0]), 1);
        dueInt("the first that came is dropped", x.block(o[5], 0), 0);
        dueInt("the second is not", x.block(o[1], 0), 3);
        // When one goes into the DAG there is room, and the others wait in their old order.
        dueInt("receive(other)", x.receive(other), 0);
        dueInt("count(4)", x.count(4), 3);
        dueInt("a fourth", x.receive(o[7]), 1);
        dueInt("none is dropped for it", x.block(o[4], 0), 3);
        dueInt("a fifth", x.receive(o[6]), 1);
        dueInt("now the longest waiting is dropped", x.block(o[4], 0), 0);
        dueInt("it comes again", x.receive(o[4]), 1);
        dueInt("the next is dropped", x.block(o[2], 0), 0);
        for (int i : on(0, 7, 6, 4)) {
            dueInt("four wait", x.block(o[i], 0), 3);
        }
    }

    private void receiveRefusalsDropNoOrphan() {
        Hand h = begin("promise 10: with four orphans a refused block drops none", 4);
        LimitedMesh x = h.mesh;
        int lacking = h.make(1, 1, on(0));
        int a = h.add(2, 2, on(0));
        int[] o = new int[4];
        for (int i = 0; i < 4; i++) {
            o[i] = h.make(10 + i, 3, on(lacking));
            dueInt("receive", x.receive(o[i]), 1);
        }
        dueInt("none such", x.receive(99), -1);
        dueInt("wrong work, and a parent lacks", x.receive(h.makeWrong(MAX, 4, on(lacking))), -2);
        dueInt("in the DAG", x.receive(a), -3);
        dueInt("an orphan", x.receive(o[3]), -3);
        dueInt("overlap", x.receive(h.make(20, 5, on(0, a))), -4);
        h.add(21, 6, on(a));
        for (int i = 0; i < 4; i++) {
            dueInt("it waits", x.block(o[i], 0), 3);
        }
    }

    private void receiveAddsOrphansAsOftenAsThereIsOne() {
        for (int[] coming : new int[][] {{2, 3, 4, 5}, {5, 4, 3, 2}, {3, 5, 2, 4}}) {
            Hand h = begin("promise 10: 'as often as there is one'", 4);
            LimitedMesh x = h.mesh;
            for (int b = 1; b <= 5; b++) {
                h.make(b, b, on(b - 1));
            }
            for (int b : coming) {
                dueInt("receive(" + b + ")", x.receive(b), 1);
            }
            dueWanted(x, 1);
            dueInt("receive(1)", x.receive(1), 0);
            dueOrder(x, 0, 1, 2, 3, 4, 5);
            dueInt("count(4)", x.count(4), 0);
            dueWanted(x);
        }
        Hand h = begin("promise 10: 'the one with the least number first', on any way to it", 4);
        LimitedMesh x = h.mesh;
        h.make(1, 1, on(0));
        // The greater number is the parent of the lesser one's brother; none has to wait for the next call.
        h.make(2, 2, on(1));
        h.make(3, 3, on(1));
        h.make(4, 4, on(3, 2));
        h.make(5, 5, on(3));
        for (int b : on(4, 5, 3, 2)) {
            dueInt("receive(" + b + ")", x.receive(b), 1);
        }
        dueInt("receive(1)", x.receive(1), 0);
        dueInt("count(2)", x.count(2), 6);
        dueOrder(x, 0, 1, 2, 3, 4, 5);
    }

    private void receiveDropsAnOrphanWithOverlap() {
        Hand h = begin("promise 10: 'An orphan with which it is so, when its turn comes, is dropped'", 4);
        LimitedMesh x = h.mesh;
        int a = h.make(1, 1, on(0));
        int bad = h.make(2, 2, on(0, a));
        int aboveBad = h.make(3, 3, on(bad));
        int badLater = h.make(4, 4, on(a, 0));
        int good = h.make(5, 5, on(a));
        for (int b : on(bad, aboveBad, badLater, good)) {
            dueInt("receive", x.receive(b), 1);
        }
        dueInt("receive(a)", x.receive(a), 0);
        dueOrder(x, 0, a, good);
        dueInt("dropped", x.block(bad, 0), 0);
        dueInt("dropped", x.block(badLater, 0), 0);
        dueInt("its child still waits", x.block(aboveBad, 0), 3);
        dueInt("count(4)", x.count(4), 1);
        dueWanted(x, bad);
        dueInt("receive(bad)", x.receive(bad), -4);
        dueInt("receive(badLater)", x.receive(badLater), -4);
        dueWanted(x, bad);
    }

    // Promise 11

    private void submitOfNoneSuch() {
        Hand h = begin("promise 11: '-1 there is none such'", 0);
        LimitedMesh x = h.mesh;
        for (int transaction : new int[] {MIN, -64, -1, 0, 1, 39, 40, 63, 64, 100, MAX}) {
            dueInt("submit(" + transaction + ") on a new object", x.submit(transaction), -1);
        }
        for (int t = 0; t < 40; t++) {
            h.pay(100, 0, G, 1, t);
        }
        dueInt("submit(40)", x.submit(40), -1);
        dueInt("submit(-1)", x.submit(-1), -1);
        dueInt("submit(39)", x.submit(39), 0);
    }

    private void submitOfWhatIsInThePool() {
        Hand h = begin("promise 11: '-2 it is in the pool'", 0);
        LimitedMesh x = h.mesh;
        int t = h.pay(100, 0, G, 1, 64);
        int behind = h.pay(t, 0, 1, 2, 64);
        dueInt("submit", x.submit(t), 0);
        dueInt("again", x.submit(t), -2);
        dueInt("submit", x.submit(behind), 0);
        dueInt("the first again", x.submit(t), -2);
        dueInt("the last again", x.submit(behind), -2);
        duePool(x, t, behind);
    }

    private void submitOfWhatIsAccepted() {
        Hand h = begin("promise 11: '-2 .. or accepted already'", 0);
        LimitedMesh x = h.mesh;
        int t = h.pay(100, 0, G, 1, 64);
        int rival = h.pay(100, 0, G, 2, 64);
        int a = h.add(9, 1, on(0), t);
        dueInt("accepted", x.submit(t), -2);
        dueInt("not accepted, and its source is spent", x.submit(rival), -3);
        h.add(8, 2, on(0), rival);
        dueInt("not accepted any more", x.submit(t), -3);
        dueInt("accepted now", x.submit(rival), -2);
        h.add(7, 3, on(a));
        dueInt("accepted again", x.submit(t), -2);
        duePool(x);
    }

    private void submitOfWhatWouldNotBeAccepted() {
        Hand h = begin("promise 11: '-3 it would not be accepted behind the others'", 0);
        LimitedMesh x = h.mesh;
        int split = h.pay(100, 0, G, 1, 32, 2, 32);
        int none = h.pay(split, 0, 1, 3, 32);
        dueInt("not there yet", x.submit(none), -3);
        dueInt("submit", x.submit(split), 0);
        dueInt("wrong secret", x.submit(h.pay(split, 0, 2, 3, 32)), -3);
        dueInt("one too much", x.submit(h.pay(split, 0, 1, 3, 33)), -3);
        dueInt("one too much together", x.submit(h.pay(split, 0, 1, 3, 32, 4, 1)), -3);
        dueInt("one too much of two", x.submit(h.join(on(split, 0, 1), on(split, 1, 2), 3, 65)), -3);
        dueInt("one twice", x.submit(h.join(on(split, 0, 1), on(split, 0, 1), 3, 32)), -3);
        dueInt("spent", x.submit(h.pay(100, 0, G, 3, 1)), -3);
        duePool(x, split);
        dueInt("just as much", x.submit(none), 0);
        dueInt("spent by the others", x.submit(h.pay(split, 0, 1, 4, 1)), -3);
        int less = h.pay(split, 1, 2, 3, 0);
        dueInt("less", x.submit(less), 0);
        duePool(x, split, none, less);
    }

    private void submitEightAreThere() {
        Hand h = begin("promise 11: '-4 eight are there'", 0);
        LimitedMesh x = h.mesh;
        for (int t = 0; t < 10; t++) {
            h.pay(t == 0 ? 100 : t - 1, 0, t == 0 ? G : t, t + 1, 64);
        }
        for (int t = 0; t < 7; t++) {
            dueInt("submit(" + t + ")", x.submit(t), 0);
        }
        dueInt("the eighth", x.submit(7), 0);
        dueInt("the ninth", x.submit(8), -4);
        dueInt("the ninth again", x.submit(8), -4);
        // What was refused is not there for another.
        dueInt("behind the ninth", x.submit(9), -3);
        duePool(x, 0, 1, 2, 3, 4, 5, 6, 7);
    }

    private void submitFirstOfTheRefusals() {
        Hand h = begin("promise 11: 'the first of these'", 0);
        LimitedMesh x = h.mesh;
        for (int t = 0; t < 10; t++) {
            h.pay(t == 0 ? 100 : t - 1, 0, t == 0 ? G : t, t + 1, 64);
        }
        int rival = h.pay(100, 0, G, 1, 1);
        h.add(1, 1, on(0), 0);
        for (int t = 1; t <= 8; t++) {
            dueInt("submit(" + t + ")", x.submit(t), 0);
        }
        dueInt("none such, eight are there", x.submit(11), -1);
        dueInt("accepted, would not be, eight are there", x.submit(0), -2);
        dueInt("in the pool, would not be, eight are there", x.submit(1), -2);
        dueInt("the last in the pool, eight are there", x.submit(8), -2);
        dueInt("would not be accepted, eight are there", x.submit(rival), -3);
        dueInt("eight are there", x.submit(9), -4);
        duePool(x, 1, 2, 3, 4, 5, 6, 7, 8);
    }

    // Promise 12

    private void blockOfNoSuchBlock() {
        Hand h = begin("promise 12: '-1 if there is no such block'", 0);
        LimitedMesh x = h.mesh;
        h.add(1, 1, on(0));
        for (int block : new int[] {MIN, -64, -1, 2, 3, 59, 60, 61, 64, 100, MAX}) {
            for (int what = 0; what <= 5; what++) {
                dueInt("block(" + block + ", " + what + ")", x.block(block, what), -1);
            }
        }
        dueInt("the last one", x.block(1, 5), 1);
    }

    private void blockOfNoSuchWhat() {
        Hand h = begin("promise 12: '-1 if there is no such .. what'", 0);
        LimitedMesh x = h.mesh;
        h.add(1, 1, on(0));
        int unknown = h.make(2, 2, on(0));
        int orphan = h.make(3, 3, on(unknown));
        dueInt("receive", x.receive(orphan), 1);
        for (int what : new int[] {MIN, -5, -1, 6, 7, 64, MAX}) {
            for (int block = 0; block <= 3; block++) {
                dueInt("block(" + block + ", " + what + ")", x.block(block, what), -1);
            }
        }
        dueInt("the first what", x.block(1, 0), 2);
        dueInt("the last what", x.block(1, 5), 1);
    }

    private void blockOutsideTheDag() {
        Hand h = begin("promise 12: 'for 1 to 4 also if it is not in the DAG'", 0);
        LimitedMesh x = h.mesh;
        int unknown = h.make(2, 2, on(0));
        int orphan = h.make(3, 3, on(unknown));
        int wrong = h.makeWrong(BOUND, 4, on(0));
        dueInt("receive", x.receive(orphan), 1);
        dueInt("receive", x.receive(wrong), -2);
        for (int what = 1; what <= 4; what++) {
            dueInt("block(unknown, " + what + ")", x.block(unknown, what), -1);
            dueInt("block(orphan, " + what + ")", x.block(orphan, what), -1);
            dueInt("block(wrong, " + what + ")", x.block(wrong, what), -1);
        }
        dueInt("block(unknown, 0)", x.block(unknown, 0), 0);
        dueInt("block(orphan, 0)", x.block(orphan, 0), 3);
        dueInt("block(wrong, 0)", x.block(wrong, 0), 0);
        dueInt("block(unknown, 5)", x.block(unknown, 5), 2);
        dueInt("block(orphan, 5)", x.block(orphan, 5), 3);
        dueInt("block(wrong, 5)", x.block(wrong, 5), BOUND);
    }

    private void blockOfTheGenesis() {
        Hand h = begin("promise 12: 'SELECTED (2; -1 for the genesis)'", 0);
        LimitedMesh x = h.mesh;
        for (int turn = 0; turn < 2; turn++) {
            int[] due = {2, 0, -1, 0, 0, h.hashOf(0)};
            for (int what = 0; what <= 5; what++) {
                dueInt("block(0, " + what + ")", x.block(0, what), due[what]);
            }
            int made = h.add(1 + turn, 1, on(turn));
            dueInt("SELECTED of another one", x.block(made, 2), turn);
        }
    }

    private void blockOfTheLastBlock() {
        Hand h = begin("promise 12: of block 59", 0);
        LimitedMesh x = h.mesh;
        for (int b = 1; b <= 55; b++) {
            h.add(b, b, on(b - 1));
        }
        for (int b = 56; b <= 58; b++) {
            h.add(b, b, on(55));
        }
        int last = h.add(59, 59, on(58, 57, 56));
        int[] due = {2, 57, 56, 59, 2, 59};
        for (int what = 0; what <= 5; what++) {
            dueInt("block(59, " + what + ")", x.block(last, what), due[what]);
        }
        dueInt("a red one's place", x.block(57, 3), 57);
        dueInt("a red one", x.block(57, 0), 1);
    }

    // Promise 13

    private void orderAtItsEnds() {
        Hand h = begin("promise 13: '-1 if there is none'", 0);
        LimitedMesh x = h.mesh;
        for (int b = 1; b < 60; b++) {
            dueInt("the first place", x.order(0), 0);
            dueInt("the last place", x.order(b - 1), b - 1);
            dueInt("behind it", x.order(b), -1);
            h.add(b, b, on(b - 1));
        }
        dueInt("the last place of all", x.order(59), 59);
        for (int place : new int[] {MIN, -60, -1, 60, 61, 64, MAX}) {
            dueInt("order(" + place + ")", x.order(place), -1);
        }
    }

    // Promise 14

    private void unspentOfWhatIsNotThere() {
        Hand h = begin("promise 14: '-1 if it is not'", 0);
        LimitedMesh x = h.mesh;
        int t = h.pay(100, 0, G, 1, 30, 2, 34);
        int single = h.pay(t, 1, 2, 3, 34);
        int notAccepted = h.pay(100, 0, G, 4, 64);
        int pooled = h.pay(t, 0, 1, 5, 30);
        int a = h.add(1, 1, on(0), t, single, notAccepted);
        int red = h.add(2, 2, on(0));
        int unknown = h.make(3, 3, on(0));
        int orphan = h.make(4, 4, on(unknown));
        dueInt("receive", x.receive(orphan), 1);
        dueInt("submit", x.submit(pooled), 0);
        dueInt("spent in the pool alone", x.unspent(t, 0), 30);
        dueInt("spent", x.unspent(t, 1), -1);
        dueInt("the one output", x.unspent(single, 0), 34);
        dueInt("a second output that is not there", x.unspent(single, 1), -1);
        dueInt("not accepted", x.unspent(notAccepted, 0), -1);
        dueInt("of the pool", x.unspent(pooled, 0), -1);
        dueInt("spent", x.unspent(100, 0), -1);
        dueInt("blue", x.unspent(100 + a, 0), 64);
        for (int block : on(red, unknown, orphan, orphan + 1)) {
            dueInt("unspent(" + (100 + block) + ", 0)", x.unspent(100 + block, 0), -1);
        }
        for (int output : new int[] {MIN, -1, 2, 3, MAX}) {
            dueInt("unspent(t, " + output + ")", x.unspent(t, output), -1);
            dueInt("unspent(100 + a, " + output + ")", x.unspent(100 + a, output), -1);
        }
        dueInt("output 1 of a block", x.unspent(100 + a, 1), -1);
        for (int source : new int[] {MIN, MIN + 100, -100, -1, 4, 39, 40, 41, 60, 99, 159, 160, 161, 199, MAX}) {
            dueInt("unspent(" + source + ", 0)", x.unspent(source, 0), -1);
            dueInt("unspent(" + source + ", 1)", x.unspent(source, 1), -1);
        }
    }

    private void unspentOfNothing() {
        Hand h = begin("promise 14: an amount of 0 is there", 0);
        LimitedMesh x = h.mesh;
        int t = h.pay(100, 0, G, 1, 0, 2, 0);
        int a = h.add(1, 1, on(0), t);
        dueInt("unspent(t, 0)", x.unspent(t, 0), 0);
        dueInt("unspent(t, 1)", x.unspent(t, 1), 0);
        h.add(2, 2, on(a), h.pay(t, 1, 2, 3, 0));
        dueInt("spent", x.unspent(t, 1), -1);
        dueInt("the other is not", x.unspent(t, 0), 0);
    }

    private void unspentOfTheLastSources() {
        Hand h = begin("promise 14: of the transaction 39 and the block 59", 0);
        LimitedMesh x = h.mesh;
        for (int t = 0; t < 39; t++) {
            h.pay(100, 0, G - 1, 1, t);
        }
        int last = h.pay(100, 0, G, 1, 30, 2, 31);
        dueInt("not yet", x.unspent(last, 0), -1);
        for (int b = 1; b < 59; b++) {
            h.make(b, b, on(b - 1));
        }
        int sixtieth = h.add(59, 59, on(0), last);
        dueInt("unspent(39, 0)", x.unspent(39, 0), 30);
        dueInt("unspent(39, 1)", x.unspent(39, 1), 31);
        dueInt("unspent(159, 0)", x.unspent(100 + sixtieth, 0), 67);
        dueInt("unspent(40, 0)", x.unspent(40, 0), -1);
        dueInt("unspent(160, 0)", x.unspent(160, 0), -1);
        dueInt("count(6)", x.count(6), 1);
    }

    // Promise 15

    private void poolAtItsEnds() {
        Hand h = begin("promise 15: '-1 if there is none'", 0);
        LimitedMesh x = h.mesh;
        for (int t = 0; t < 8; t++) {
            h.pay(t == 0 ? 100 : t - 1, 0, t == 0 ? G : t, t + 1, 64);
        }
        for (int t = 0; t < 8; t++) {
            dueInt("behind the last", x.pool(t), -1);
            dueInt("submit", x.submit(t), 0);
            dueInt("the last", x.pool(t), t);
        }
        for (int k : new int[] {MIN, -8, -1, 8, 9, MAX}) {
            dueInt("pool(" + k + ")", x.pool(k), -1);
        }
        h.add(1, 1, on(0), 0, 1, 2);
        dueInt("the first of five", x.pool(0), 3);
        dueInt("the last of five", x.pool(4), 7);
        dueInt("behind the last of five", x.pool(5), -1);
        dueInt("pool(7)", x.pool(7), -1);
    }

    // Promise 16

    private void wantedAtItsEnds() {
        Hand h = begin("promise 16: 'by rising number; -1 if there is none'", 4);
        LimitedMesh x = h.mesh;
        for (int b = 1; b <= 16; b++) {
            h.make(b, b, on(0));
        }
        dueWanted(x);
        int[][] parents = {{16, 1, 15, 2}, {14, 3, 13, 4}, {12, 5, 11, 6}, {10, 7, 9, 8}};
        for (int i = 0; i < 4; i++) {
            dueInt("receive", x.receive(h.make(100 + i, 1, parents[i])), 1);
        }
        dueWanted(x, 1, 2, 3, 4, 5, 6, 7, 8, 9, 10, 11, 12, 13, 14, 15, 16);
        for (int k : new int[] {MIN, -16, -1, 16, 17, 59, 60, MAX}) {
            dueInt("wanted(" + k + ")", x.wanted(k), -1);
        }
        dueInt("one that two want", x.receive(h.make(200, 1, on(3, 14))), 1);
        dueWanted(x, 3, 4, 5, 6, 7, 8, 9, 10, 11, 12, 13, 14);
    }

    private void wantedOfTheLastBlocks() {
        Hand h = begin("promise 16: of the block 59", 4);
        LimitedMesh x = h.mesh;
        for (int b = 1; b < 59; b++) {
            h.make(b, b, on(0));
        }
        int last = h.make(59, 59, on(58, 1, 57, 0));
        dueInt("receive", x.receive(last), 1);
        dueWanted(x, 1, 57, 58);
        dueInt("receive(58)", x.receive(58), 0);
        dueWanted(x, 1, 57);
    }

    private void wantedLeavesOutDagAndOrphans() {
        Hand h = begin("promise 16: 'parents that are neither in the DAG nor orphans'", 4);
        LimitedMesh x = h.mesh;
        int known = h.add(1, 1, on(0));
        int unknown = h.make(2, 2, on(0));
        int orphan = h.make(3, 3, on(unknown));
        int above = h.make(4, 4, on(orphan, known));
        int other = h.make(5, 5, on(above));
        dueInt("receive", x.receive(other), 1);
        dueWanted(x, above);
        dueInt("receive", x.receive(above), 1);
        dueWanted(x, orphan);
        dueInt("receive", x.receive(orphan), 1);
        dueWanted(x, unknown);
        dueInt("receive", x.receive(unknown), 0);
        dueWanted(x);
    }

    // Promise 17

    private void parentOfAtItsEnds() {
        Hand h = begin("promise 17: '-1 if there is none such'", 4);
        LimitedMesh x = h.mesh;
        dueInt("the genesis has none", x.parentOf(0, 0), -1);
        for (int b = 1; b <= 4; b++) {
            h.make(b, b, on(0));
        }
        int four = h.make(5, 5, on(4, 2, 3, 1));
        int one = h.make(6, 6, on(four));
        dueParents(x, four, 4, 2, 3, 1);
        dueParents(x, one, four);
        for (int k : new int[] {MIN, -4, -1, 4, 5, MAX}) {
            dueInt("parentOf(four, " + k + ")", x.parentOf(four, k), -1);
        }
        for (int k : new int[] {MIN, -4, -1, 1, 2, 3, 4, MAX}) {
            dueInt("parentOf(one, " + k + ")", x.parentOf(one, k), -1);
            dueInt("parentOf(0, " + k + ")", x.parentOf(0, k), -1);
        }
        for (int block : new int[] {MIN, -1, 7, 59, 60, 64, MAX}) {
            dueInt("parentOf(" + block + ", 0)", x.parentOf(block, 0), -1);
        }
    }

    // Promise 18

    private void countOfAnotherWhat() {
        Hand h = begin("promise 18: '-1 for another what'", 0);
        LimitedMesh x = h.mesh;
        h.pay(100, 0, G, 1, 1);
        for (int what : new int[] {MIN, -10, -1, 10, 11, 100, MAX}) {
            dueInt("count(" + what + ")", x.count(what), -1);
        }
        dueInt("the first what", x.count(0), 1);
        dueInt("the last what", x.count(9), h.idOf(0));
    }

    private void countIdOfNone() {
        Hand h = begin("promise 18: 'the ID of the transaction made last (9), 0 without'", 0);
        LimitedMesh x = h.mesh;
        dueInt("without", x.count(9), 0);
        dueTrue("input", x.input(100, 0, G));
        dueInt("it is not made yet", x.count(9), 0);
        dueInt("transaction()", x.transaction(), -1);
        dueInt("it was refused", x.count(9), 0);
        x.clear();
        for (int t = 0; t < 40; t++) {
            h.pay(100, 0, G, 1, t);
            dueInt("the last", x.count(9), h.idOf(t));
        }
        dueTrue("input", x.input(100, 0, G));
        dueTrue("output", x.output(1, 999));
        dueInt("transaction()", x.transaction(), -1);
        dueInt("the last of all", x.count(9), h.idOf(39));
    }

    private void countsAtTheirGreatest() {
        Hand h = begin("promise 18: the greatest counts", 0);
        LimitedMesh x = h.mesh;
        for (int t = 0; t < 40; t++) {
            h.pay(t == 0 ? 100 : t - 1, 0, t == 0 ? G : t, t + 1, 64);
        }
        for (int b = 1; b <= 12; b++) {
            h.add(b, b, on(b - 1), 3 * b - 3, 3 * b - 2, 3 * b - 1);
        }
        dueInt("accepted ones", x.count(6), 36);
        h.add(13, 13, on(12), 36, 37);
        dueInt("accepted ones", x.count(6), 38);
        h.add(14, 14, on(13), 39, 38);
        dueInt("accepted ones", x.count(6), 39);
        h.add(15, 15, on(14), 39);
        dueInt("accepted ones", x.count(6), 40);
        dueInt("transactions", x.count(0), 40);
        dueInt("the last one's output", x.unspent(39, 0), 64);
    }

    private void countOfManyTips() {
        Hand h = begin("promise 18: 59 tips", 0);
        LimitedMesh x = h.mesh;
        for (int b = 1; b < 60; b++) {
            h.add(60 - b, b, on(0));
        }
        dueCounts(x, 0, 60, 60, 59, 0, 0, 0, 2, 59);
        dueInt("order(1)", x.order(1), 59);
        dueInt("order(59)", x.order(59), 1);
        dueInt("total()", x.total(), 128);
    }

    // Promise 19

    private void totalOfNothingMore() {
        Hand h = begin("promise 19: spent and empty outputs", 0);
        LimitedMesh x = h.mesh;
        dueInt("at first", x.total(), 64);
        int t = h.pay(100, 0, G, 1, 0, 2, 0);
        int a = h.add(1, 1, on(0));
        int red = h.add(2, 2, on(0), t);
        dueInt("all that the genesis had is lost", x.total(), 64);
        dueInt("two outputs of nothing", x.unspent(t, 0) + x.unspent(t, 1), 0);
        dueInt("spent", x.unspent(100, 0), -1);
        int next = h.add(3, 3, on(a, red), h.pay(100 + a, 0, 1, 5, 0));
        dueInt("the fee comes to the next", x.unspent(100 + next, 0), 128);
        dueInt("total()", x.total(), 128);
        dueInt("submit", x.submit(h.pay(100 + next, 0, 3, 5, 27)), 0);
        dueInt("what the pool spends is there still", x.total(), 128);
    }

    private void totalAtItsGreatest() {
        Hand h = begin("promise 19: many unspent outputs", 4);
        LimitedMesh x = h.mesh;
        int[] layer = on(0);
        int total = 64;
        int score = 1;
        for (int i = 0; i < 14; i++) {
            int[] brothers = new int[4];
            for (int j = 0; j < 4; j++) {
                brothers[j] = h.add(10 * i + j, 1, layer);
                total += 64 >> score / 8;
            }
            layer = brothers;
            score += 4;
        }
        dueInt("count(2)", x.count(2), 57);
        dueInt("count(7)", x.count(7), 57);
        dueInt("total()", x.total(), total);
    }
}
