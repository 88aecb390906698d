import java.util.ArrayList;
import java.util.List;
import java.util.function.Consumer;
import java.util.function.ToIntFunction;

/**
 * "A call that is refused changes nothing": two meshes come to the same state, one gets a refused call more,
 * and then both answer alike, and go on alike.
 */
public final class RefusalsTest extends ByHand {
    private static final int BOUND = Hand.GOOD_BELOW;
    /** So many calls are kept for what is asked behind the first look. */
    private static final int MUCH_LEFT = 250;

    private String place;
    private int k;
    private Consumer<Hand> scene;

    public static void main(String[] args) {
        RefusalsTest test = new RefusalsTest();
        test.onANewObject();
        test.amidAllKindsOfThings();
        test.whereAllIsFull();
        test.whereFortyTransactionsAre();
        test.whereSixtyBlocksAre();
        test.whereSomethingLacks();
        test.check.end();
    }

    private void at(String name, int blueBound, Consumer<Hand> come) {
        place = name;
        k = blueBound;
        scene = come;
    }

    private void refused(String told, ToIntFunction<LimitedMesh> call, int due) {
        Hand asked = begin(place + ": " + told, k);
        Hand spared = new Hand(k, check);
        scene.accept(asked);
        scene.accept(spared);
        for (int turn = 0; turn < 3; turn++) {
            dueInt("the refused call", call.applyAsInt(asked.mesh), due);
        }
        same("behind it", look(asked.mesh), look(spared.mesh));
        same("what was being made", finish(asked.mesh), finish(spared.mesh));
        if (spared.mesh.callsLeft() > MUCH_LEFT) {
            same("going on", goOn(asked.mesh), goOn(spared.mesh));
            same("at the end", look(asked.mesh), look(spared.mesh));
        }
    }

    private void refusedFlag(String told, ToIntFunction<LimitedMesh> call) {
        refused(told, call, 0);
    }

    private void same(String when, List<Integer> got, List<Integer> want) {
        check.due(when + ": how many answers", got.size(), want.size());
        for (int i = 0; i < Math.min(got.size(), want.size()); i++) {
            check.due(when + ": answer " + i, got.get(i), want.get(i));
        }
    }

    private static int flag(boolean answer) {
        return answer ? 1 : 0;
    }

    /** All that can be asked and may change. */
    private static List<Integer> look(LimitedMesh x) {
        List<Integer> seen = new ArrayList<>();
        for (int what = 0; what <= 9; what++) {
            seen.add(x.count(what));
        }
        int transactions = seen.get(0);
        int blocks = seen.get(1);
        int known = seen.get(2);
        seen.add(x.total());
        for (int t = 0; t < transactions; t++) {
            seen.add(x.unspent(t, 0));
            seen.add(x.unspent(t, 1));
        }
        for (int b = 0; b < blocks; b++) {
            seen.add(x.block(b, 0));
            seen.add(x.unspent(100 + b, 0));
        }
        for (int place = 0; place <= known; place++) {
            seen.add(x.order(place));
        }
        for (int i = 0; i <= 8; i++) {
            seen.add(x.pool(i));
        }
        for (int i = 0; i <= 4; i++) {
            seen.add(x.wanted(i));
        }
        return seen;
    }

    /** What is being made is seen by its ID and hash, when it is made. */
    private static List<Integer> finish(LimitedMesh x) {
        List<Integer> seen = new ArrayList<>();
        for (int turn = 0; turn < 2; turn++) {
            seen.add(x.transaction());
            seen.add(x.count(9));
            seen.add(flag(x.input(100, 0, 77 + turn)));
            seen.add(flag(x.output(78 + turn, 3)));
            int made = x.make(79, turn);
            seen.add(made);
            seen.add(x.block(made, 5));
            for (int i = 0; i <= 4; i++) {
                seen.add(x.parentOf(made, i));
            }
            seen.add(flag(x.parent(0)));
            seen.add(flag(x.include(0)));
        }
        return seen;
    }

    /** What the node holds out of sight, such as how long an orphan waits, is seen by what comes of it. */
    private static List<Integer> goOn(LimitedMesh x) {
        List<Integer> seen = new ArrayList<>();
        for (int t = x.count(0); t >= 0; t--) {
            seen.add(x.submit(t));
        }
        int made = x.template(80, 1);
        seen.add(x.block(made, 5));
        for (int b = made; b > 0; b--) {
            seen.add(x.receive(b));
            seen.add(x.wanted(0));
        }
        return seen;
    }

    private void onANewObject() {
        at("a new object", 1, h -> { });
        for (int source : on(MIN, -1, 0, 39, 40, 99, 101, 160, MAX)) {
            refusedFlag("input(" + source + ", 0, 1)", x -> flag(x.input(source, 0, 1)));
        }
        for (int output : on(MIN, -1, 1, 2, MAX)) {
            refusedFlag("input(100, " + output + ", 1)", x -> flag(x.input(100, output, 1)));
        }
        for (int amount : on(MIN, -1, 1001, MAX)) {
            refusedFlag("output(1, " + amount + ")", x -> flag(x.output(1, amount)));
        }
        refused("transaction()", LimitedMesh::transaction, -1);
        for (int none : on(MIN, -1, 1, 59, 60, MAX)) {
            refusedFlag("parent(" + none + ")", x -> flag(x.parent(none)));
            refusedFlag("include(" + none + ")", x -> flag(x.include(none)));
            refused("receive(" + none + ")", x -> x.receive(none), -1);
            refused("submit(" + none + ")", x -> x.submit(none), -1);
        }
        refusedFlag("include(0)", x -> flag(x.include(0)));
        refused("submit(0)", x -> x.submit(0), -1);
        refused("make(1, 1)", x -> x.make(1, 1), -1);
        refused("receive(0)", x -> x.receive(0), -3);
    }

    /** Blue, red, unknown, wrong and waiting blocks, a pool, and half of a transaction and of a block. */
    private void comeAmidAll(Hand h) {
        h.pay(100, 0, G, 1, 30, 2, 30);
        h.pay(0, 0, 1, 3, 30);
        h.pay(0, 1, 2, 4, 20);
        h.pay(1, 0, 3, 5, 30);
        h.pay(0, 1, 2, 4, 31);
        h.add(10, 1, on(0), 0);
        h.add(20, 2, on(1));
        h.add(30, 3, on(0));
        h.make(40, 4, on(0));
        h.make(41, 5, on(4), 4);
        h.make(42, 6, on(5, 2));
        h.make(43, 7, on(1, 2));
        h.makeWrong(BOUND, 8, on(2));
        h.makeWrong(BOUND + 1, 9, on(4));
        for (int orphan : on(6, 5)) {
            h.mesh.receive(orphan);
        }
        for (int t : on(1, 2)) {
            h.mesh.submit(t);
        }
        h.mesh.input(100, 0, 8);
        h.mesh.output(9, 10);
        h.put(on(2, 4), 3);
    }

    private void amidAllKindsOfThings() {
        at("amid all kinds of things", 1, this::comeAmidAll);
        refusedFlag("input(5, 0, 1)", x -> flag(x.input(5, 0, 1)));
        refusedFlag("input(110, 0, 1)", x -> flag(x.input(110, 0, 1)));
        refusedFlag("input(0, 2, 1)", x -> flag(x.input(0, 2, 1)));
        refusedFlag("input(101, 1, 1)", x -> flag(x.input(101, 1, 1)));
        refusedFlag("output(1, -1)", x -> flag(x.output(1, -1)));
        refusedFlag("output(1, 1001)", x -> flag(x.output(1, 1001)));
        refusedFlag("parent(2), one already", x -> flag(x.parent(2)));
        refusedFlag("parent(4), one already", x -> flag(x.parent(4)));
        refusedFlag("parent(10)", x -> flag(x.parent(10)));
        refusedFlag("include(3), in it already", x -> flag(x.include(3)));
        refusedFlag("include(5)", x -> flag(x.include(5)));
        refused("receive(10), none such", x -> x.receive(10), -1);
        refused("receive(8), wrong work", x -> x.receive(8), -2);
        refused("receive(9), wrong work and a parent lacks", x -> x.receive(9), -2);
        refused("receive(2), in the DAG", x -> x.receive(2), -3);
        refused("receive(3), in the DAG and red", x -> x.receive(3), -3);
        refused("receive(6), the orphan that came first", x -> x.receive(6), -3);
        refused("receive(5), the orphan that came last", x -> x.receive(5), -3);
        refused("receive(7), overlap", x -> x.receive(7), -4);
        refused("submit(5), none such", x -> x.submit(5), -1);
        refused("submit(1), in the pool", x -> x.submit(1), -2);
        refused("submit(0), accepted", x -> x.submit(0), -2);
        refused("submit(4), too much and spent", x -> x.submit(4), -3);
        questions();
    }

    /** To ask changes nothing either, whatever is asked. */
    private void questions() {
        for (int odd : on(MIN, -1, 60, 160, MAX)) {
            refused("block(" + odd + ", 0)", x -> x.block(odd, 0), -1);
            refused("block(0, " + odd + ")", x -> x.block(0, odd), -1);
            refused("order(" + odd + ")", x -> x.order(odd), -1);
            refused("unspent(" + odd + ", 0)", x -> x.unspent(odd, 0), -1);
            refused("unspent(0, " + odd + ")", x -> x.unspent(0, odd), -1);
            refused("pool(" + odd + ")", x -> x.pool(odd), -1);
            refused("wanted(" + odd + ")", x -> x.wanted(odd), -1);
            refused("parentOf(" + odd + ", 0)", x -> x.parentOf(odd, 0), -1);
            refused("parentOf(1, " + odd + ")", x -> x.parentOf(1, odd), -1);
            refused("count(" + odd + ")", x -> x.count(odd), -1);
        }
        refused("total()", LimitedMesh::total, 30 + 30 + 68 + 64);
    }

    /** Two inputs, two outputs, four parents, three transactions, four orphans, eight in the pool. */
    private void comeWhereAllIsFull(Hand h) {
        h.pay(100, 0, G, 0, 64);
        for (int t = 1; t < 10; t++) {
            h.pay(t - 1, 0, t - 1, t, 64);
        }
        h.pay(100, 0, G, 0, 63);
        h.add(10, 1, on(0), 0);
        h.make(20, 2, on(0));
        for (int i = 0; i < 5; i++) {
            h.make(30 + i, 3, on(2));
        }
        h.make(40, 4, on(1, 0));
        h.makeWrong(BOUND, 5, on(2));
        for (int orphan : on(5, 3, 6, 4)) {
            h.mesh.receive(orphan);
        }
        for (int t = 1; t <= 8; t++) {
            h.mesh.submit(t);
        }
        h.mesh.input(100, 0, 8);
        h.mesh.input(5, 1, 9);
        h.mesh.output(10, 11);
        h.mesh.output(12, 13);
        h.put(on(7, 1, 4, 2), 9, 2, 5);
    }

    private void whereAllIsFull() {
        at("where all is full", 4, this::comeWhereAllIsFull);
        refusedFlag("input, two are there", x -> flag(x.input(100, 0, 1)));
        refusedFlag("input of a transaction, two are there", x -> flag(x.input(0, 0, 1)));
        refusedFlag("output, two are there", x -> flag(x.output(1, 1)));
        refusedFlag("parent, four are there", x -> flag(x.parent(0)));
        refusedFlag("parent, one already and four are there", x -> flag(x.parent(7)));
        refusedFlag("include, three are there", x -> flag(x.include(0)));
        refusedFlag("include, in it already and three are there", x -> flag(x.include(9)));
        refused("receive(10), none such", x -> x.receive(10), -1);
        refused("receive(9), wrong work and a parent lacks", x -> x.receive(9), -2);
        refused("receive(1), in the DAG", x -> x.receive(1), -3);
        refused("receive(5), the orphan that came first", x -> x.receive(5), -3);
        refused("receive(4), the orphan that came last", x -> x.receive(4), -3);
        refused("receive(8), overlap", x -> x.receive(8), -4);
        refused("submit(11), none such", x -> x.submit(11), -1);
        refused("submit(0), accepted", x -> x.submit(0), -2);
        refused("submit(1), the first in the pool", x -> x.submit(1), -2);
        refused("submit(8), the last in the pool", x -> x.submit(8), -2);
        refused("submit(10), would not be accepted", x -> x.submit(10), -3);
        refused("submit(9), eight are there", x -> x.submit(9), -4);
    }

    private void whereFortyTransactionsAre() {
        at("where forty transactions are", 0, h -> {
            for (int t = 0; t < 40; t++) {
                h.pay(100, 0, G, 1, t);
            }
            h.mesh.submit(39);
            // It can't be made any more, but it is seen to be there by what it has no room for.
            h.mesh.input(39, 0, 1);
            h.mesh.input(38, 0, 1);
            h.mesh.output(2, 3);
            h.mesh.output(4, 5);
        });
        refused("transaction()", LimitedMesh::transaction, -1);
        refusedFlag("input(40, 0, 1)", x -> flag(x.input(40, 0, 1)));
        refusedFlag("include(40)", x -> flag(x.include(40)));
        refused("submit(40)", x -> x.submit(40), -1);
        refused("submit(38)", x -> x.submit(38), -3);
    }

    private void whereSixtyBlocksAre() {
        at("where sixty blocks are", 0, h -> {
            for (int t = 0; t < 4; t++) {
                h.pay(100, 0, G, 1, 60 + t);
            }
            for (int b = 1; b < 60; b++) {
                h.mesh.parent(b / 2);
                h.mesh.make(b, b);
            }
            h.mesh.submit(0);
            h.put(on(59, 3, 58, 2), 1, 2, 3);
        });
        refused("make(1, 1)", x -> x.make(1, 1), -1);
        refused("template(1, 1)", x -> x.template(1, 1), -1);
        refusedFlag("parent(60)", x -> flag(x.parent(60)));
        refusedFlag("parent(59), one already", x -> flag(x.parent(59)));
        refused("receive(60)", x -> x.receive(60), -1);
        refusedFlag("input(160, 0, 1)", x -> flag(x.input(160, 0, 1)));
    }

    private void whereSomethingLacks() {
        at("where an input lacks", 0, h -> {
            h.mesh.output(1, 2);
            h.mesh.output(3, 4);
        });
        refused("transaction()", LimitedMesh::transaction, -1);
        at("where an output lacks", 0, h -> {
            h.mesh.input(100, 0, 1);
            h.mesh.input(100, 0, 2);
        });
        refused("transaction()", LimitedMesh::transaction, -1);
        at("where a parent lacks", 0, h -> {
            h.pay(100, 0, G, 1, 60);
            h.mesh.include(0);
        });
        refused("make(1, 1)", x -> x.make(1, 1), -1);
    }
}
