import java.util.ArrayList;
import java.util.Comparator;
import java.util.HashMap;
import java.util.List;
import java.util.Map;
import java.util.Random;

/** Long runs of calls by chance, the same each time, on a mesh and on its plain model. */
public final class ModelTest {
    private static final int RUNS = 2500;
    private static final int GENESIS_SECRET = -382889545;
    private static final int[] ODD = {-2147483648, -101, -100, -1, 0, 1, 2, 3, 4, 5, 8, 9, 10, 39, 40, 41, 59, 60, 61,
        99, 100, 101, 139, 140, 159, 160, 161, 255, 1000, 1001, 2147483647};

    private final Random random;
    private final Pair pair;
    private final PlainModel model;
    private final Map<PlainModel.Place, Integer> secrets = new HashMap<>();
    /** How a run goes, each of 100: late blocks, blocks beside the newest ones, transactions, few different hashes. */
    private final int late;
    private final int wide;
    private final int spending;
    private final int alike;

    private ModelTest(int seed, Check check) {
        random = new Random(seed);
        pair = new Pair(random.nextInt(4) == 0 ? odd() : random.nextInt(5), check);
        model = pair.model;
        late = random.nextInt(3) * 35;
        wide = random.nextInt(4) * 30;
        spending = random.nextInt(4) * 22;
        alike = random.nextInt(3) * 45;
        secrets.put(new PlainModel.Place(100, 0), GENESIS_SECRET);
    }

    public static void main(String[] args) {
        Check check = new Check();
        for (int seed = 0; seed < RUNS && check.wrong() == 0; seed++) {
            check.part("run " + seed);
            new ModelTest(seed, check).go();
        }
        check.end();
    }

    private void go() {
        int looks = random.nextInt(4);
        int kept = random.nextInt(200);
        while (pair.hasRoom(30 + kept)) {
            step();
            for (int i = 0; i < looks; i++) {
                look();
            }
        }
        lookAtAll();
    }

    private void step() {
        if (chance(spending)) {
            if (chance(65)) {
                makeTransaction();
            } else {
                pair.submit(chance(90) ? random.nextInt(model.transactions.size() + 1) : odd());
            }
            return;
        }
        int what = random.nextInt(100);
        if (what < 50) {
            makeBlock();
        } else if (what < 85) {
            pair.receive(someBlock());
        } else if (what < 94) {
            makeTemplate();
        } else if (what < 97) {
            pair.submit(random.nextInt(model.transactions.size() + 1));
        } else {
            oddCall();
        }
    }

    private void makeTransaction() {
        List<PlainModel.Place> places = new ArrayList<>(model.ahead().unspent.keySet());
        places.sort(Comparator.comparing(p -> p.source() * 2 + p.output()));
        int sum = 0;
        int inputs = 1 + random.nextInt(2);
        for (int i = 0; i < inputs; i++) {
            int source = chance(50) ? random.nextInt(40) : 100 + random.nextInt(60);
            PlainModel.Place place = chance(85) && !places.isEmpty() ? places.get(random.nextInt(places.size()))
                    : new PlainModel.Place(source, random.nextInt(2));
            int secret = chance(96) ? secrets.getOrDefault(place, 3) : random.nextInt(9);
            pair.input(place.source(), place.output(), secret);
            PlainModel.Output there = model.ahead().unspent.get(place);
            sum += there == null ? 0 : there.amount();
        }
        int outputs = 1 + random.nextInt(2);
        int[] locked = new int[2];
        int left = Math.min(1000, chance(50) ? sum : random.nextInt(sum + 3));
        for (int i = 0; i < outputs; i++) {
            int amount = i == outputs - 1 ? left : random.nextInt(left + 1);
            left -= amount;
            locked[i] = random.nextInt(30);
            pair.output(locked[i], amount);
        }
        int made = pair.transaction();
        for (int i = 0; made >= 0 && i < outputs; i++) {
            secrets.put(new PlainModel.Place(made, i), locked[i]);
        }
        if (made >= 0 && chance(60)) {
            pair.submit(made);
        }
    }

    private void makeBlock() {
        List<Integer> tips = model.tips();
        int parents = 1 + random.nextInt(chance(70) ? 2 : 4);
        for (int i = 0; i < parents; i++) {
            int far = Math.min(model.blocks.size(), chance(50) ? 5 : 15);
            pair.parent(chance(wide) || chance(late) ? model.blocks.size() - 1 - random.nextInt(far)
                    : tips.get(random.nextInt(tips.size())));
        }
        for (int i = random.nextInt(5); i > 0 && !model.transactions.isEmpty() && chance(70); i--) {
            pair.include(random.nextInt(model.transactions.size()));
        }
        int secret = random.nextInt(30);
        int nonce = nonce(model.parents, model.included, secret);
        remember(pair.make(secret, nonce), secret);
    }

    private void makeTemplate() {
        int secret = random.nextInt(30);
        int nonce = nonce(model.templateParents(), model.templateTransactions(), secret);
        remember(pair.template(secret, nonce), secret);
    }

    private void remember(int block, int secret) {
        if (block < 0) {
            return;
        }
        secrets.put(new PlainModel.Place(100 + block, 0), secret);
        if (!chance(late)) {
            pair.receive(block);
        }
    }

    private int nonce(List<Integer> parents, List<Integer> transactions, int secret) {
        if (chance(5)) {
            return random.nextInt();
        }
        if (chance(6)) {
            return model.nonceBeforeZero(random.nextInt(43), parents, transactions, secret);
        }
        int apart = chance(95) ? random.nextInt(536870912) : 536870870 + random.nextInt(60);
        int hash = chance(alike) ? random.nextInt(3) : apart;
        return model.nonceFor(hash, parents, transactions, secret);
    }

    private int someBlock() {
        if (chance(3)) {
            return odd();
        }
        List<Integer> wanted = model.wantedBlocks();
        if (chance(30) && !wanted.isEmpty()) {
            return wanted.get(random.nextInt(wanted.size()));
        }
        List<Integer> unknown = new ArrayList<>();
        for (int b = 0; b < model.blocks.size(); b++) {
            if (model.block(b, 0) == 0) {
                unknown.add(b);
            }
        }
        return unknown.isEmpty() || chance(8) ? random.nextInt(model.blocks.size())
                : unknown.get(random.nextInt(unknown.size()));
    }

    private void oddCall() {
        switch (random.nextInt(8)) {
            case 0 -> pair.input(odd(), random.nextInt(4) - 1, odd());
            case 1 -> pair.output(odd(), odd());
            case 2 -> pair.transaction();
            case 3 -> pair.parent(odd());
            case 4 -> pair.include(odd());
            case 5 -> pair.make(odd(), odd());
            case 6 -> pair.clear();
            default -> pair.submit(odd());
        }
    }

    private void look() {
        int block = chance(95) ? random.nextInt(model.blocks.size()) : odd();
        int transaction = random.nextInt(model.transactions.size() + 1);
        switch (random.nextInt(9)) {
            case 0 -> pair.block(block, random.nextInt(8) - 1);
            case 1 -> pair.order(chance(95) ? random.nextInt(model.dag.size() + 1) : odd());
            case 2 -> pair.unspent(100 + block, chance(90) ? 0 : odd());
            case 3 -> pair.unspent(transaction, chance(95) ? random.nextInt(2) : odd());
            case 4 -> pair.pool(random.nextInt(10) - 1);
            case 5 -> pair.wanted(random.nextInt(6) - 1);
            case 6 -> pair.parentOf(block, random.nextInt(6) - 1);
            case 7 -> pair.count(random.nextInt(12) - 1);
            default -> pair.total();
        }
    }

    /** As much of the whole state as the promised number of calls leaves room for. */
    private void lookAtAll() {
        for (int what = 0; what < 11 && pair.hasRoom(1); what++) {
            pair.count(what);
        }
        if (pair.hasRoom(1)) {
            pair.total();
        }
        for (int k = 0; k < 9 && pair.hasRoom(2); k++) {
            pair.pool(k);
            pair.wanted(k);
        }
        for (int b = model.blocks.size() - 1; b >= 0 && pair.hasRoom(4); b--) {
            pair.order(b);
            pair.block(b, 0);
            pair.block(b, 1 + random.nextInt(5));
            pair.unspent(100 + b, 0);
        }
        for (int t = model.transactions.size() - 1; t >= 0 && pair.hasRoom(2); t--) {
            pair.unspent(t, 0);
            pair.unspent(t, 1);
        }
    }

    private boolean chance(int ofHundred) {
        return random.nextInt(100) < ofHundred;
    }

    private int odd() {
        return ODD[random.nextInt(ODD.length)];
    }
}
