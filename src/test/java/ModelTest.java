import java.util.ArrayList;
import java.util.Arrays;
import java.util.List;
import java.util.Map;
import java.util.Random;
import java.util.TreeMap;

// Long runs of mixed calls with fixed seeds, each answer held against a model
// that takes the document's words literally: it looks at every address. Runs
// that never came into a situation could not test it, so each situation that
// the document tells apart has to be met often enough.
public final class ModelTest {
    private static final int RUNS = 108;
    private static final int CALLS = 512;
    private static final int OFTEN = 10;

    private static final int MIXES = 4;
    private static final int REGIONS = 6;

    private final Random random;
    private final int mix;
    private final int region;
    private final int favourite;
    private final PeerRoutes routes = new PeerRoutes();
    private final RoutesModel model = new RoutesModel();

    private ModelTest(int run) {
        random = new Random(run);
        mix = run % MIXES;
        region = run / MIXES % REGIONS;
        favourite = run % RoutesModel.NAMES.length;
    }

    public static void main(String[] args) {
        Map<String, Integer> met = new TreeMap<>();
        int wrong = 0;
        for (int run = 0; run < RUNS; run++) {
            ModelTest test = new ModelTest(run);
            for (int i = 1; i <= CALLS; i++) {
                wrong += test.isNextAnswerRight("run " + run + ", call " + i, met) ? 0 : 1;
            }
        }
        for (String situation : RoutesModel.SITUATIONS) {
            int times = met.getOrDefault(situation, 0);
            if (times < OFTEN) {
                wrong++;
                System.out.println("met " + times + " times only: " + situation);
            }
        }
        System.out.println(wrong == 0 ? "all answers are the model's" : wrong + " faults");
        if (wrong != 0) {
            System.exit(1);
        }
    }

    private boolean isNextAnswerRight(String where, Map<String, Integer> met) {
        int call = pickCall();
        int[] a = pickArguments(call);
        List<String> situations = model.situations(call, a);
        int got = answer(routes, call, a);
        int want = model.answer(call, a);
        for (String situation : situations) {
            met.merge(situation, 1, Integer::sum);
        }
        if (got != want) {
            System.out.println(where + ": " + RoutesModel.NAMES[call] + " with address/from " + a[0]
                + ", length " + a[1] + ", peer " + a[2] + " answered " + got + ", due is " + want);
        }
        return got == want;
    }

    private static int answer(PeerRoutes x, int call, int[] a) {
        switch (call) {
            case RoutesModel.ALLOW: return x.allow(a[0], a[1], a[2]);
            case RoutesModel.DENY: return x.deny(a[0], a[1]);
            case RoutesModel.FORGET: return x.forget(a[2]);
            case RoutesModel.OWNER: return x.owner(a[0]);
            case RoutesModel.LENGTH: return x.length(a[0]);
            case RoutesModel.OWNED: return x.owned(a[2]);
            case RoutesModel.NEXT: return x.next(a[2], a[0]);
            case RoutesModel.USELESS: return x.useless();
            default: return x.entries(a[2]);
        }
    }

    // The mixes: filling up, coming and going, nearly empty, and one call far
    // more often than all others.
    private int pickCall() {
        int n = random.nextInt(100);
        if (mix == 3 && random.nextInt(20) < 17) {
            return favourite;
        }
        if (mix == 1) {
            return byShares(n, 30, 25, 3);
        }
        return mix == 2 ? byShares(n, 15, 15, 15) : byShares(n, 45, 10, 2);
    }

    private int byShares(int n, int allow, int deny, int forget) {
        if (n < allow) {
            return RoutesModel.ALLOW;
        }
        if (n < allow + deny) {
            return RoutesModel.DENY;
        }
        return n < allow + deny + forget ? RoutesModel.FORGET : RoutesModel.OWNER + random.nextInt(6);
    }

    private int[] pickArguments(int call) {
        int length = pickLength();
        int address = pickAddress(length);
        return new int[] {oddAddress(address), oddLength(length), pickPeer(call)};
    }

    // The regions: anywhere; few prefixes, short ones or the last long ones or
    // very few of two peers; more short ones than there is room for; and the
    // prefixes of one address with those beside them, which cover each other.
    private int pickLength() {
        switch (region) {
            case 1: return random.nextInt(5);
            case 2: return 12 + random.nextInt(5);
            case 3: return random.nextInt(4);
            case 4: return random.nextInt(6);
            default: return random.nextInt(17);
        }
    }

    private int pickAddress(int length) {
        switch (region) {
            case 2: return 0xFFF0 + random.nextInt(16);
            case 5: return random.nextBoolean() ? 0xA5A5 : 0xA5A5 ^ 65536 >> length & 65535;
            default: return random.nextInt(65536);
        }
    }

    private int pickPeer(int call) {
        boolean asksForNobody = call == RoutesModel.OWNED || call == RoutesModel.NEXT;
        if (asksForNobody && random.nextInt(5) == 0) {
            return -1;
        }
        switch (random.nextInt(40)) {
            case 0: return -1;
            case 1: return 8;
            case 2: return -2;
            case 3: return random.nextInt();
            case 4: return random.nextInt(8) + 256 * random.nextInt(4);
            default: return region < 3 ? random.nextInt(8) : random.nextInt(region - 1);
        }
    }

    private int oddLength(int length) {
        switch (random.nextInt(40)) {
            case 0: return -1;
            case 1: return 17;
            case 2: return random.nextInt();
            case 3: return length + 256 * random.nextInt(4);
            default: return length;
        }
    }

    private int oddAddress(int address) {
        int size = 1 << 16 - pickLength();
        switch (random.nextInt(24)) {
            case 0: return address + (random.nextInt() << 16);
            case 1: return random.nextInt();
            case 2: return 65535 + random.nextInt(2);
            case 3: return -1 - random.nextInt(2);
            case 4: return address / size * size;
            case 5: return address / size * size + size - 1;
            default: return address;
        }
    }
}

final class RoutesModel {
    static final int ALLOW = 0;
    static final int DENY = 1;
    static final int FORGET = 2;
    static final int OWNER = 3;
    static final int LENGTH = 4;
    static final int OWNED = 5;
    static final int NEXT = 6;
    static final int USELESS = 7;
    static final int ENTRIES = 8;
    static final String[] NAMES = {
        "allow", "deny", "forget", "owner", "length", "owned", "next", "useless", "entries"
    };

    // Promise 1 is met by each call on a new object, 11 by a wrong peer for
    // next together with a from that would be answered -1.
    static final String[] SITUATIONS = {
        "deny of a new object", "forget of a new object", "owner of a new object",
        "length of a new object", "owned of a new object", "next of a new object",
        "useless of a new object", "entries of a new object",
        "allow: wrong length", "allow: wrong peer", "allow: wrong length and peer",
        "allow: held, 32 are", "allow: held, fewer are", "allow: not held, 32 are",
        "allow: not held, 31 are", "allow: not held, none is", "allow: not held, some are",
        "allow: address beyond 16 bits", "allow: address below 0",
        "deny: wrong length", "deny: not held, none is", "deny: not held, some are",
        "deny: not held, 32 are", "deny: held, 32 are", "deny: held, the only one",
        "deny: held, some are", "deny: address beyond 16 bits", "deny: address below 0",
        "forget: wrong peer", "forget: none", "forget: some", "forget: all",
        "owner: nobody", "owner: one covers", "owner: several cover",
        "owner: address beyond 16 bits", "owner: address below 0",
        "length: nobody", "length: one covers", "length: several cover",
        "length: address beyond 16 bits", "length: address below 0",
        "owned: wrong peer", "owned: no address", "owned: some addresses", "owned: all addresses",
        "owned: nobody, no address", "owned: nobody, some addresses", "owned: nobody, all addresses",
        "next: wrong peer", "next: wrong peer and none is behind from",
        "next: none", "next: from itself", "next: behind from", "next: from below 0",
        "next: from above 65535", "next: nobody, none", "next: nobody, from itself",
        "next: nobody, behind from", "next: nobody, from below 0", "next: nobody, from above 65535",
        "useless: none", "useless: all", "useless: hands on to its own peer", "useless: settles no address",
        "entries: wrong peer", "entries: none", "entries: some", "entries: all"
    };

    private static final int ADDRESSES = 65536;
    private static final int ROOM = 32;

    // A held prefix is the key length * 65536 + its first address, so that
    // later keys are never shorter prefixes than earlier ones.
    private final TreeMap<Integer, Integer> peers = new TreeMap<>();
    private int[] owners = settled(peers, true);
    private int[] lengths = settled(peers, false);
    private boolean isNew = true;

    private static int key(int address, int length) {
        int rest = 16 - length;
        return length * ADDRESSES + ((address & 65535) >> rest << rest);
    }

    private static int lengthOf(int key) {
        return key / ADDRESSES;
    }

    private static int firstOf(int key) {
        return key % ADDRESSES;
    }

    private static int behind(int key) {
        return firstOf(key) + (1 << (16 - lengthOf(key)));
    }

    private static boolean isLength(int length) {
        return length >= 0 && length <= 16;
    }

    private static boolean isPeer(int peer) {
        return peer >= 0 && peer <= 7;
    }

    private static boolean isOwner(int peer) {
        return peer >= -1 && peer <= 7;
    }

    // For each address what the longest covering prefix has to say: its peer or
    // its length; -1 where none covers it.
    private static int[] settled(TreeMap<Integer, Integer> entries, boolean byPeer) {
        int[] answers = new int[ADDRESSES];
        Arrays.fill(answers, -1);
        for (Map.Entry<Integer, Integer> e : entries.entrySet()) {
            int key = e.getKey();
            Arrays.fill(answers, firstOf(key), behind(key), byPeer ? e.getValue() : lengthOf(key));
        }
        return answers;
    }

    int answer(int call, int[] a) {
        switch (call) {
            case ALLOW: return allow(a[0], a[1], a[2]);
            case DENY: return deny(a[0], a[1]);
            case FORGET: return forget(a[2]);
            case OWNER: return owners[a[0] & 65535];
            case LENGTH: return lengths[a[0] & 65535];
            case OWNED: return owned(a[2]);
            case NEXT: return next(a[2], a[0]);
            case USELESS: return useless();
            default: return entries(a[2]);
        }
    }

    private void settleAnew() {
        owners = settled(peers, true);
        lengths = settled(peers, false);
        isNew = false;
    }

    private int allow(int address, int length, int peer) {
        if (!isLength(length) || !isPeer(peer)) {
            return -1;
        }
        int key = key(address, length);
        if (!peers.containsKey(key) && peers.size() == ROOM) {
            return -1;
        }
        peers.put(key, peer);
        settleAnew();
        return peers.size();
    }

    private int deny(int address, int length) {
        if (!isLength(length) || peers.remove(key(address, length)) == null) {
            return -1;
        }
        settleAnew();
        return peers.size();
    }

    private int forget(int peer) {
        if (!isPeer(peer)) {
            return -1;
        }
        int before = peers.size();
        if (peers.values().removeIf(p -> p == peer)) {
            settleAnew();
        }
        return before - peers.size();
    }

    private int owned(int peer) {
        if (!isOwner(peer)) {
            return -2;
        }
        int count = 0;
        for (int owner : owners) {
            count += owner == peer ? 1 : 0;
        }
        return count;
    }

    private int next(int peer, int from) {
        if (!isOwner(peer)) {
            return -2;
        }
        for (int a = 0; a < ADDRESSES; a++) {
            if (a >= from && owners[a] == peer) {
                return a;
            }
        }
        return -1;
    }

    private boolean isUseless(int key) {
        TreeMap<Integer, Integer> others = new TreeMap<>(peers);
        others.remove(key);
        return Arrays.equals(owners, settled(others, true));
    }

    private int useless() {
        int count = 0;
        for (int key : peers.keySet()) {
            count += isUseless(key) ? 1 : 0;
        }
        return count;
    }

    private int entries(int peer) {
        if (!isPeer(peer)) {
            return -1;
        }
        int count = 0;
        for (int p : peers.values()) {
            count += p == peer ? 1 : 0;
        }
        return count;
    }

    // What the call, which is not yet made, will test.
    List<String> situations(int call, int[] a) {
        List<String> found = new ArrayList<>();
        String name = NAMES[call];
        if (isNew) {
            found.add(name + " of a new object");
        }
        switch (call) {
            case ALLOW: found.add(name + ": " + allowing(a[0], a[1], a[2])); break;
            case DENY: found.add(name + ": " + denying(a[0], a[1])); break;
            case FORGET: found.add(name + ": " + entriesOf(a[2])); break;
            case OWNER: case LENGTH: found.add(name + ": " + covering(a[0] & 65535)); break;
            case OWNED: found.add(name + ": " + owning(a[2])); break;
            case NEXT: found.add(name + ": " + following(a[2], a[0])); break;
            case USELESS: addUselessness(found); break;
            default: found.add(name + ": " + entriesOf(a[2])); break;
        }
        boolean masks = call == OWNER || call == LENGTH
            || (call == ALLOW || call == DENY) && isLength(a[1]);
        if (masks && a[0] != (a[0] & 65535)) {
            found.add(name + ": address " + (a[0] < 0 ? "below 0" : "beyond 16 bits"));
        }
        return found;
    }

    private String allowing(int address, int length, int peer) {
        if (!isLength(length)) {
            return isPeer(peer) ? "wrong length" : "wrong length and peer";
        }
        if (!isPeer(peer)) {
            return "wrong peer";
        }
        if (peers.containsKey(key(address, length))) {
            return peers.size() == ROOM ? "held, 32 are" : "held, fewer are";
        }
        return peers.size() == ROOM - 1 ? "not held, 31 are" : "not held, " + howManyAre();
    }

    private String denying(int address, int length) {
        if (!isLength(length)) {
            return "wrong length";
        }
        if (!peers.containsKey(key(address, length))) {
            return "not held, " + howManyAre();
        }
        return peers.size() == 1 ? "held, the only one" : "held, " + howManyAre();
    }

    private String howManyAre() {
        if (peers.isEmpty()) {
            return "none is";
        }
        return peers.size() == ROOM ? "32 are" : "some are";
    }

    private String entriesOf(int peer) {
        int count = entries(peer);
        if (count <= 0) {
            return count == 0 ? "none" : "wrong peer";
        }
        return count == peers.size() ? "all" : "some";
    }

    private String covering(int address) {
        int count = 0;
        for (int key : peers.keySet()) {
            count += address >= firstOf(key) && address < behind(key) ? 1 : 0;
        }
        if (count == 0) {
            return "nobody";
        }
        return count == 1 ? "one covers" : "several cover";
    }

    private String owning(int peer) {
        int count = owned(peer);
        if (count == -2) {
            return "wrong peer";
        }
        String whose = peer == -1 ? "nobody, " : "";
        if (count == 0) {
            return whose + "no address";
        }
        return whose + (count == ADDRESSES ? "all addresses" : "some addresses");
    }

    private String following(int peer, int from) {
        if (!isOwner(peer)) {
            return from >= ADDRESSES ? "wrong peer and none is behind from" : "wrong peer";
        }
        String whose = peer == -1 ? "nobody, " : "";
        if (from < 0 || from >= ADDRESSES) {
            return whose + (from < 0 ? "from below 0" : "from above 65535");
        }
        int found = next(peer, from);
        if (found == -1) {
            return whose + "none";
        }
        return whose + (found == from ? "from itself" : "behind from");
    }

    private void addUselessness(List<String> found) {
        int count = 0;
        for (int key : peers.keySet()) {
            if (isUseless(key)) {
                count++;
                found.add("useless: " + (settles(key) ? "hands on to its own peer" : "settles no address"));
            }
        }
        if (count == 0) {
            found.add("useless: none");
        } else if (count == peers.size()) {
            found.add("useless: all");
        }
    }

    private boolean settles(int key) {
        for (int a = firstOf(key); a < behind(key); a++) {
            if (lengths[a] == lengthOf(key)) {
                return true;
            }
        }
        return false;
    }
}
