import java.util.ArrayList;
import java.util.BitSet;
import java.util.Comparator;
import java.util.HashMap;
import java.util.HashSet;
import java.util.List;
import java.util.Map;
import java.util.Set;
import java.util.TreeSet;

/** The document's words in their most direct form, for comparison: all is told anew from the blocks each time. */
final class PlainModel {
    record Input(int source, int output, int secret) { }

    record Output(int lock, int amount) { }

    record Transaction(List<Input> inputs, List<Output> outputs, int id) { }

    record Block(int number, List<Integer> parents, List<Integer> transactions, int lock, int hash, BitSet past) { }

    record View(int selected, List<Integer> merged, List<Integer> blues, List<Integer> order) {
        int score() {
            return blues.size();
        }
    }

    /** An output's place: source and number. */
    record Place(int source, int output) { }

    static final class State {
        final Map<Place, Output> unspent = new HashMap<>();
        final Set<Integer> accepted = new HashSet<>();
    }

    private static final int GOOD = 536870912;

    final int k;
    final List<Transaction> transactions = new ArrayList<>();
    final List<Block> blocks = new ArrayList<>();
    final Set<Integer> dag = new TreeSet<>();
    final List<Integer> orphans = new ArrayList<>();
    final List<Integer> pool = new ArrayList<>();

    List<Input> inputs = new ArrayList<>();
    List<Output> outputs = new ArrayList<>();
    List<Integer> parents = new ArrayList<>();
    List<Integer> included = new ArrayList<>();

    private final Map<Integer, View> views = new HashMap<>();
    private View virtual;
    private State state;

    PlainModel(int k) {
        this.k = (k & 255) % 5;
        blocks.add(new Block(0, List.of(), List.of(), 0, mix(mix(13, 0), 0) & 0x7fffffff, new BitSet()));
        addToDag(0);
    }

    static int mix(int a, int b) {
        int t = a * 668265263 + b;
        return t ^ (t >>> 13);
    }

    boolean input(int source, int output, int secret) {
        boolean ofTransaction = source >= 0 && source < transactions.size() && (output == 0 || output == 1);
        boolean ofBlock = source >= 100 && source < 100 + blocks.size() && output == 0;
        if (!ofTransaction && !ofBlock || inputs.size() == 2) {
            return false;
        }
        return inputs.add(new Input(source, output, secret));
    }

    boolean output(int secret, int amount) {
        if (amount < 0 || amount > 1000 || outputs.size() == 2) {
            return false;
        }
        return outputs.add(new Output(mix(7, secret), amount));
    }

    int transaction() {
        if (inputs.isEmpty() || outputs.isEmpty() || transactions.size() == 40) {
            return -1;
        }
        int x = 11;
        for (Input in : inputs) {
            int mark = in.source() >= 100 ? blocks.get(in.source() - 100).hash() : transactions.get(in.source()).id();
            x = mix(x, mark);
            x = mix(x, in.output());
            x = mix(x, in.secret());
        }
        for (Output out : outputs) {
            x = mix(x, out.lock());
            x = mix(x, out.amount());
        }
        transactions.add(new Transaction(inputs, outputs, x));
        inputs = new ArrayList<>();
        outputs = new ArrayList<>();
        return transactions.size() - 1;
    }

    boolean parent(int block) {
        if (block < 0 || block >= blocks.size() || parents.contains(block) || parents.size() == 4) {
            return false;
        }
        return parents.add(block);
    }

    boolean include(int transaction) {
        if (transaction < 0 || transaction >= transactions.size() || included.contains(transaction)
                || included.size() == 3) {
            return false;
        }
        return included.add(transaction);
    }

    int make(int secret, int nonce) {
        if (parents.isEmpty() || blocks.size() == 60) {
            return -1;
        }
        int number = build(parents, included, secret, nonce);
        parents = new ArrayList<>();
        included = new ArrayList<>();
        return number;
    }

    void clear() {
        inputs.clear();
        outputs.clear();
        parents.clear();
        included.clear();
    }

    int template(int secret, int nonce) {
        if (blocks.size() == 60) {
            return -1;
        }
        return build(templateParents(), templateTransactions(), secret, nonce);
    }

    int receive(int block) {
        if (block < 0 || block >= blocks.size()) {
            return -1;
        }
        if (block != 0 && blocks.get(block).hash() >= GOOD) {
            return -2;
        }
        if (dag.contains(block) || orphans.contains(block)) {
            return -3;
        }
        if (!dag.containsAll(blocks.get(block).parents())) {
            if (orphans.size() == 4) {
                orphans.remove(0);
            }
            orphans.add(block);
            return 1;
        }
        if (overlapping(block)) {
            return -4;
        }
        addToDag(block);
        for (Integer ready = readyOrphan(); ready != null; ready = readyOrphan()) {
            orphans.remove(ready);
            if (!overlapping(ready)) {
                addToDag(ready);
            }
        }
        State ahead = stateAfter(virtual(), List.of());
        pool.removeIf(t -> accept(ahead, t) < 0);
        return 0;
    }

    int submit(int transaction) {
        if (transaction < 0 || transaction >= transactions.size()) {
            return -1;
        }
        if (pool.contains(transaction) || state().accepted.contains(transaction)) {
            return -2;
        }
        if (accept(ahead(), transaction) < 0) {
            return -3;
        }
        if (pool.size() == 8) {
            return -4;
        }
        pool.add(transaction);
        return 0;
    }

    int block(int block, int what) {
        if (block < 0 || block >= blocks.size() || what < 0 || what > 5) {
            return -1;
        }
        boolean inDag = dag.contains(block);
        if (what == 0) {
            return orphans.contains(block) ? 3 : !inDag ? 0 : virtual().blues().contains(block) ? 2 : 1;
        }
        if (what == 5) {
            return blocks.get(block).hash();
        }
        if (!inDag) {
            return -1;
        }
        return switch (what) {
            case 1 -> view(block).score();
            case 2 -> view(block).selected();
            case 3 -> virtual().order().indexOf(block);
            default -> view(block).merged().size();
        };
    }

    int order(int place) {
        return at(virtual().order(), place);
    }

    int unspent(int source, int output) {
        Output there = state().unspent.get(new Place(source, output));
        return there == null ? -1 : there.amount();
    }

    int pool(int k) {
        return at(pool, k);
    }

    int wanted(int k) {
        return at(wantedBlocks(), k);
    }

    List<Integer> wantedBlocks() {
        Set<Integer> missing = new TreeSet<>();
        for (int orphan : orphans) {
            missing.addAll(blocks.get(orphan).parents());
        }
        missing.removeAll(dag);
        missing.removeIf(orphans::contains);
        return new ArrayList<>(missing);
    }

    int parentOf(int block, int k) {
        return block < 0 || block >= blocks.size() ? -1 : at(blocks.get(block).parents(), k);
    }

    int count(int what) {
        return switch (what) {
            case 0 -> transactions.size();
            case 1 -> blocks.size();
            case 2 -> dag.size();
            case 3 -> tips().size();
            case 4 -> orphans.size();
            case 5 -> pool.size();
            case 6 -> state().accepted.size();
            case 7 -> virtual().score();
            case 8 -> virtual().selected();
            case 9 -> transactions.isEmpty() ? 0 : transactions.get(transactions.size() - 1).id();
            default -> -1;
        };
    }

    int total() {
        return state().unspent.values().stream().mapToInt(Output::amount).sum();
    }

    /** The nonce with which a block's hash is a wished one. */
    int nonceFor(int hash, List<Integer> ofParents, List<Integer> ofTransactions, int secret) {
        int t = hash ^ hash >>> 13 ^ hash >>> 26;
        return t - beforeNonce(ofParents, ofTransactions, secret) * 668265263;
    }

    /** The nonce from which on it takes some steps to come to the hash 0, with wrong work on the way. */
    int nonceBeforeZero(int steps, List<Integer> ofParents, List<Integer> ofTransactions, int secret) {
        return nonceFor(0, ofParents, ofTransactions, secret) - steps;
    }

    private int beforeNonce(List<Integer> ofParents, List<Integer> ofTransactions, int secret) {
        int x = 13;
        for (int p : ofParents) {
            x = mix(x, blocks.get(p).hash());
        }
        for (int t : ofTransactions) {
            x = mix(x, transactions.get(t).id());
        }
        return mix(x, mix(7, secret));
    }

    private int hashOf(List<Integer> ofParents, List<Integer> ofTransactions, int secret, int nonce) {
        int x = beforeNonce(ofParents, ofTransactions, secret);
        for (int tried = 0; tried < 40; tried++) {
            int hash = mix(x, nonce + tried) & 0x7fffffff;
            if (hash < GOOD || tried == 39) {
                return hash;
            }
        }
        throw new IllegalStateException();
    }

    /** The parents and transactions that template() would take. */
    List<Integer> templateParents() {
        List<Integer> best = new ArrayList<>(tips());
        best.sort(Comparator.comparing((Integer b) -> -view(b).score()).thenComparing(this::rank));
        return new ArrayList<>(best.subList(0, Math.min(4, best.size())));
    }

    List<Integer> templateTransactions() {
        return new ArrayList<>(pool.subList(0, Math.min(3, pool.size())));
    }

    List<Integer> tips() {
        Set<Integer> tips = new TreeSet<>(dag);
        for (int b : dag) {
            tips.removeAll(new HashSet<>(blocks.get(b).parents()));
        }
        return new ArrayList<>(tips);
    }

    View virtual() {
        if (virtual == null) {
            BitSet past = new BitSet();
            dag.forEach(past::set);
            virtual = viewOf(tips(), past);
        }
        return virtual;
    }

    View view(int block) {
        View known = views.get(block);
        if (known == null) {
            Block b = blocks.get(block);
            known = block == 0 ? new View(-1, List.of(), List.of(), List.of()) : viewOf(b.parents(), b.past());
            views.put(block, known);
        }
        return known;
    }

    State state() {
        if (state == null) {
            state = stateAfter(virtual(), List.of());
        }
        return state;
    }

    /** The state behind the order and the pool. */
    State ahead() {
        return stateAfter(virtual(), pool);
    }

    private int build(List<Integer> ofParents, List<Integer> ofTransactions, int secret, int nonce) {
        BitSet past = new BitSet();
        for (int p : ofParents) {
            past.set(p);
            past.or(blocks.get(p).past());
        }
        int hash = hashOf(ofParents, ofTransactions, secret, nonce);
        blocks.add(new Block(blocks.size(), ofParents, ofTransactions, mix(7, secret), hash, past));
        return blocks.size() - 1;
    }

    private void addToDag(int block) {
        dag.add(block);
        virtual = null;
        state = null;
    }

    private boolean overlapping(int block) {
        for (int one : blocks.get(block).parents()) {
            for (int other : blocks.get(block).parents()) {
                if (blocks.get(other).past().get(one)) {
                    return true;
                }
            }
        }
        return false;
    }

    private Integer readyOrphan() {
        return orphans.stream().filter(b -> dag.containsAll(blocks.get(b).parents()))
                .min(Integer::compare).orElse(null);
    }

    private int earlier(int one, int other) {
        int byHash = Integer.compare(blocks.get(one).hash(), blocks.get(other).hash());
        return byHash != 0 ? byHash : Integer.compare(one, other);
    }

    private long rank(Integer block) {
        return blocks.get(block).hash() * 100L + block;
    }

    private View viewOf(List<Integer> ofParents, BitSet past) {
        int selected = ofParents.get(0);
        for (int p : ofParents) {
            int more = Integer.compare(view(p).score(), view(selected).score());
            if (more > 0 || more == 0 && earlier(p, selected) < 0) {
                selected = p;
            }
        }
        List<Integer> merged = new ArrayList<>();
        for (int b = past.nextSetBit(0); b >= 0; b = past.nextSetBit(b + 1)) {
            if (b != selected && !blocks.get(selected).past().get(b)) {
                merged.add(b);
            }
        }
        merged.sort(Comparator.comparing((Integer b) -> view(b).score()).thenComparing(this::rank));
        List<Integer> blues = new ArrayList<>(view(selected).blues());
        blues.add(selected);
        for (int b : merged) {
            blues.add(b);
            if (tooLoose(blues)) {
                blues.remove(blues.size() - 1);
            }
        }
        List<Integer> order = new ArrayList<>(view(selected).order());
        order.add(selected);
        order.addAll(merged);
        return new View(selected, merged, blues, order);
    }

    private boolean tooLoose(List<Integer> blues) {
        for (int one : blues) {
            int apart = 0;
            for (int other : blues) {
                boolean tied = blocks.get(one).past().get(other) || blocks.get(other).past().get(one);
                apart += one == other || tied ? 0 : 1;
            }
            if (apart > k) {
                return true;
            }
        }
        return false;
    }

    private State stateAfter(View end, List<Integer> oneBlockMore) {
        State s = new State();
        for (int b : end.order()) {
            int fees = 0;
            for (int t : blocks.get(b).transactions()) {
                fees += Math.max(0, accept(s, t));
            }
            if (end.blues().contains(b)) {
                int score = view(b).score();
                int reward = score >= 56 ? 0 : 64 >> (score / 8);
                s.unspent.put(new Place(100 + b, 0), new Output(blocks.get(b).lock(), reward + fees));
            }
        }
        for (int t : oneBlockMore) {
            accept(s, t);
        }
        return s;
    }

    private int accept(State s, int transaction) {
        Transaction t = transactions.get(transaction);
        Set<Place> spent = new HashSet<>();
        int sum = 0;
        for (Input in : t.inputs()) {
            Place place = new Place(in.source(), in.output());
            Output there = s.unspent.get(place);
            if (there == null || there.lock() != mix(7, in.secret()) || !spent.add(place)) {
                return -1;
            }
            sum += there.amount();
        }
        for (Output out : t.outputs()) {
            sum -= out.amount();
        }
        if (sum < 0 || !s.accepted.add(transaction)) {
            return -1;
        }
        s.unspent.keySet().removeAll(spent);
        for (int i = 0; i < t.outputs().size(); i++) {
            s.unspent.put(new Place(transaction, i), t.outputs().get(i));
        }
        return sum;
    }

    private static int at(List<Integer> list, int place) {
        return place >= 0 && place < list.size() ? list.get(place) : -1;
    }
}
