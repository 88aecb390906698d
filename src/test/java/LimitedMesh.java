/** A mesh that is asked at most 512 times, for no more is promised; a test that asks more is itself wrong. */
final class LimitedMesh {
    static final int MOST_CALLS = 512;

    private final BlockMesh mesh;
    private final Check check;
    private int calls;

    LimitedMesh(int k, Check check) {
        this.check = check;
        mesh = new BlockMesh(k);
    }

    int callsLeft() {
        return MOST_CALLS - calls;
    }

    boolean input(int source, int output, int secret) {
        return counted().input(source, output, secret);
    }

    boolean output(int secret, int amount) {
        return counted().output(secret, amount);
    }

    int transaction() {
        return counted().transaction();
    }

    boolean parent(int block) {
        return counted().parent(block);
    }

    boolean include(int transaction) {
        return counted().include(transaction);
    }

    int make(int secret, int nonce) {
        return counted().make(secret, nonce);
    }

    void clear() {
        counted().clear();
    }

    int template(int secret, int nonce) {
        return counted().template(secret, nonce);
    }

    int receive(int block) {
        return counted().receive(block);
    }

    int submit(int transaction) {
        return counted().submit(transaction);
    }

    int block(int block, int what) {
        return counted().block(block, what);
    }

    int order(int place) {
        return counted().order(place);
    }

    int unspent(int source, int output) {
        return counted().unspent(source, output);
    }

    int pool(int k) {
        return counted().pool(k);
    }

    int wanted(int k) {
        return counted().wanted(k);
    }

    int parentOf(int block, int k) {
        return counted().parentOf(block, k);
    }

    int count(int what) {
        return counted().count(what);
    }

    int total() {
        return counted().total();
    }

    private BlockMesh counted() {
        calls++;
        check.due("the test's call " + calls + " is one of the 512", calls <= MOST_CALLS, true);
        return mesh;
    }
}
