import java.util.ArrayList;
import java.util.List;

/** A mesh in a test's hand; it reckons hashes by itself, so that a block can be made with a wished one. */
final class Hand {
    static final int GENESIS_SECRET = -382889545;
    static final int GOOD_BELOW = 536870912;
    private static final int FACTOR = 668265263;
    /** FACTOR * INVERSE_FACTOR is 1, wrapping. */
    private static final int INVERSE_FACTOR = -1593951281;

    final LimitedMesh mesh;
    private final Check check;
    private final List<Integer> hashes = new ArrayList<>();
    private final List<Integer> ids = new ArrayList<>();

    Hand(int k, Check check) {
        this.check = check;
        mesh = new LimitedMesh(k, check);
        hashes.add(mix(mix(13, 0), 0) & 0x7fffffff);
    }

    static int mix(int a, int b) {
        int t = a * FACTOR + b;
        return t ^ (t >>> 13);
    }

    /** The number that was given to the xor that ends MIX. */
    private static int unmixed(int mixed) {
        return mixed ^ mixed >>> 13 ^ mixed >>> 26;
    }

    /** Makes a block with a hash below GOOD_BELOW, not received. */
    int make(int hash, int secret, int[] parents, int... transactions) {
        put(parents, transactions);
        int made = mesh.make(secret, nonceFor(hash, secret, parents, transactions));
        hashes.add(hash);
        check.due("make of block", made, hashes.size() - 1);
        check.due("hash of block " + made, mesh.block(made, 5), hash);
        return made;
    }

    /** Makes a block with a hash that is not right: that of the last nonce of the forty. */
    int makeWrong(int hash, int secret, int[] parents, int... transactions) {
        put(parents, transactions);
        int made = mesh.make(secret, nonceFor(hash, secret, parents, transactions) - 39);
        hashes.add(hash);
        check.due("make of wrong block", made, hashes.size() - 1);
        check.due("hash of wrong block " + made, mesh.block(made, 5), hash);
        return made;
    }

    /** Makes a block and lets the node have it. */
    int add(int hash, int secret, int[] parents, int... transactions) {
        int made = make(hash, secret, parents, transactions);
        check.due("receive(" + made + ")", mesh.receive(made), 0);
        return made;
    }

    void put(int[] parents, int... transactions) {
        for (int p : parents) {
            check.due("parent(" + p + ")", mesh.parent(p), true);
        }
        for (int t : transactions) {
            check.due("include(" + t + ")", mesh.include(t), true);
        }
    }

    /** A block whose hash is known was made by other means than make() here. */
    void note(int hash) {
        hashes.add(hash);
    }

    /** A transaction was made by other means than here. */
    void noteId(int id) {
        ids.add(id);
    }

    int hashOf(int block) {
        return hashes.get(block);
    }

    int idOf(int transaction) {
        return ids.get(transaction);
    }

    /** With which nonce a block has a hash; its highest bit is there before it is taken away. */
    int nonceFor(int hash, int secret, int[] parents, int... transactions) {
        int x = mix(contentMix(parents, transactions), mix(7, secret));
        return unmixed(hash) - x * FACTOR;
    }

    /** With which secret a block of a given nonce has a hash. */
    int secretFor(int hash, int nonce, int[] parents, int... transactions) {
        int x = (unmixed(hash) - nonce) * INVERSE_FACTOR;
        int lock = unmixed(x) - contentMix(parents, transactions) * FACTOR;
        return unmixed(lock) - 7 * FACTOR;
    }

    private int contentMix(int[] parents, int... transactions) {
        int x = 13;
        for (int p : parents) {
            x = mix(x, hashes.get(p));
        }
        for (int t : transactions) {
            x = mix(x, ids.get(t));
        }
        return x;
    }

    /** Makes a transaction with one input; its outputs are secrets and amounts by turns. */
    int pay(int source, int output, int secret, int... outputs) {
        check.due("input(" + source + ", " + output + ")", mesh.input(source, output, secret), true);
        int x = inputMix(11, source, output, secret);
        return finish(x, outputs);
    }

    /** Makes a transaction with two inputs. */
    int join(int[] one, int[] other, int... outputs) {
        int x = 11;
        for (int[] in : new int[][] {one, other}) {
            check.due("input(" + in[0] + ", " + in[1] + ")", mesh.input(in[0], in[1], in[2]), true);
            x = inputMix(x, in[0], in[1], in[2]);
        }
        return finish(x, outputs);
    }

    private int inputMix(int x, int source, int output, int secret) {
        int mark = source >= 100 ? hashes.get(source - 100) : ids.get(source);
        return mix(mix(mix(x, mark), output), secret);
    }

    private int finish(int begun, int... outputs) {
        int x = begun;
        for (int i = 0; i < outputs.length; i += 2) {
            check.due("output(.., " + outputs[i + 1] + ")", mesh.output(outputs[i], outputs[i + 1]), true);
            x = mix(mix(x, mix(7, outputs[i])), outputs[i + 1]);
        }
        int made = mesh.transaction();
        ids.add(x);
        check.due("transaction()", made, ids.size() - 1);
        check.due("its ID, count(9)", mesh.count(9), x);
        return made;
    }
}
