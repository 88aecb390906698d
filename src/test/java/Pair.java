import java.util.ArrayList;
import java.util.List;

/** A mesh and its plain model: each call goes to both, and their answers are compared. */
final class Pair {
    private static final int MOST_CALLS = 512;

    final PlainModel model;
    private final BlockMesh mesh;
    private final Check check;
    private final List<String> told = new ArrayList<>();

    Pair(int k, Check check) {
        this.check = check;
        mesh = new BlockMesh(k);
        model = new PlainModel(k);
        told.add("new BlockMesh(" + k + ")");
    }

    /** Whether so many calls more are promised to be answered. */
    boolean hasRoom(int calls) {
        return told.size() + calls <= MOST_CALLS;
    }

    boolean input(int source, int output, int secret) {
        boolean want = model.input(source, output, secret);
        compare("input(" + source + ", " + output + ", " + secret + ")", mesh.input(source, output, secret), want);
        return want;
    }

    boolean output(int secret, int amount) {
        boolean want = model.output(secret, amount);
        compare("output(" + secret + ", " + amount + ")", mesh.output(secret, amount), want);
        return want;
    }

    int transaction() {
        int want = model.transaction();
        return compare("transaction()", mesh.transaction(), want);
    }

    boolean parent(int block) {
        boolean want = model.parent(block);
        compare("parent(" + block + ")", mesh.parent(block), want);
        return want;
    }

    boolean include(int transaction) {
        boolean want = model.include(transaction);
        compare("include(" + transaction + ")", mesh.include(transaction), want);
        return want;
    }

    int make(int secret, int nonce) {
        int want = model.make(secret, nonce);
        return compare("make(" + secret + ", " + nonce + ")", mesh.make(secret, nonce), want);
    }

    void clear() {
        model.clear();
        mesh.clear();
        told.add("clear()");
    }

    int template(int secret, int nonce) {
        int want = model.template(secret, nonce);
        return compare("template(" + secret + ", " + nonce + ")", mesh.template(secret, nonce), want);
    }

    int receive(int block) {
        int want = model.receive(block);
        return compare("receive(" + block + ")", mesh.receive(block), want);
    }

    int submit(int transaction) {
        int want = model.submit(transaction);
        return compare("submit(" + transaction + ")", mesh.submit(transaction), want);
    }

    void block(int block, int what) {
        compare("block(" + block + ", " + what + ")", mesh.block(block, what), model.block(block, what));
    }

    void order(int place) {
        compare("order(" + place + ")", mesh.order(place), model.order(place));
    }

    void unspent(int source, int output) {
        compare("unspent(" + source + ", " + output + ")", mesh.unspent(source, output), model.unspent(source, output));
    }

    void pool(int k) {
        compare("pool(" + k + ")", mesh.pool(k), model.pool(k));
    }

    void wanted(int k) {
        compare("wanted(" + k + ")", mesh.wanted(k), model.wanted(k));
    }

    void parentOf(int block, int k) {
        compare("parentOf(" + block + ", " + k + ")", mesh.parentOf(block, k), model.parentOf(block, k));
    }

    void count(int what) {
        compare("count(" + what + ")", mesh.count(what), model.count(what));
    }

    void total() {
        compare("total()", mesh.total(), model.total());
    }

    private void compare(String call, boolean got, boolean want) {
        compare(call, got ? 1 : 0, want ? 1 : 0);
    }

    private int compare(String call, int got, int want) {
        told.add(call);
        if (got != want && check.wrong() == 0) {
            System.out.println("the calls up to the first wrong answer: " + String.join("; ", told));
        }
        check.due(call, got, want);
        return want;
    }
}
