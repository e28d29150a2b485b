import java.util.Arrays;
import java.util.Map;
import java.util.Random;
import java.util.TreeMap;

// Long runs of calls with fixed seeds, each answer held against a model that
// takes the document's words literally: it looks at every address.
public final class ModelTest {
    private static final int RUNS = 60;
    private static final int CALLS = 512;
    private static final int ADDRESSES = 65536;
    private static final String[] NAMES = {
        "allow", "deny", "forget", "owner", "length", "owned", "next", "useless", "entries"
    };

    // A held prefix is the key length * 65536 + its first address, so that
    // later keys are never shorter prefixes than earlier ones.
    private final TreeMap<Integer, Integer> peers = new TreeMap<>();

    private static int key(int address, int length) {
        int low = address & 65535;
        int rest = 16 - length;
        return length * ADDRESSES + ((low >> rest) << rest);
    }

    // For each address what the longest covering prefix has to say: its peer or
    // its length; -1 where none covers it.
    private static int[] settled(TreeMap<Integer, Integer> entries, boolean byPeer) {
        int[] answers = new int[ADDRESSES];
        Arrays.fill(answers, -1);
        for (Map.Entry<Integer, Integer> e : entries.entrySet()) {
            int length = e.getKey() / ADDRESSES;
            int first = e.getKey() % ADDRESSES;
            int size = 1 << (16 - length);
            Arrays.fill(answers, first, first + size, byPeer ? e.getValue() : length);
        }
        return answers;
    }

    private static int[] owners(TreeMap<Integer, Integer> entries) {
        return settled(entries, true);
    }

    private int allow(int address, int length, int peer) {
        if (length < 0 || length > 16 || peer < 0 || peer > 7) {
            return -1;
        }
        int key = key(address, length);
        if (!peers.containsKey(key) && peers.size() == 32) {
            return -1;
        }
        peers.put(key, peer);
        return peers.size();
    }

    private int deny(int address, int length) {
        if (length < 0 || length > 16 || peers.remove(key(address, length)) == null) {
            return -1;
        }
        return peers.size();
    }

    private int forget(int peer) {
        int before = peers.size();
        peers.values().removeIf(p -> p == peer);
        return peer < 0 || peer > 7 ? -1 : before - peers.size();
    }

    private int length(int address) {
        return settled(peers, false)[address & 65535];
    }

    private int owned(int peer) {
        if (peer < -1 || peer > 7) {
            return -2;
        }
        int count = 0;
        for (int owner : owners(peers)) {
            count += owner == peer ? 1 : 0;
        }
        return count;
    }

    private int next(int peer, int from) {
        if (peer < -1 || peer > 7) {
            return -2;
        }
        int[] owners = owners(peers);
        for (int a = 0; a < ADDRESSES; a++) {
            if (a >= from && owners[a] == peer) {
                return a;
            }
        }
        return -1;
    }

    private int useless() {
        int[] owners = owners(peers);
        int count = 0;
        for (int key : peers.keySet()) {
            TreeMap<Integer, Integer> others = new TreeMap<>(peers);
            others.remove(key);
            count += Arrays.equals(owners, owners(others)) ? 1 : 0;
        }
        return count;
    }

    private int entries(int peer) {
        int count = 0;
        for (Map.Entry<Integer, Integer> e : peers.entrySet()) {
            count += e.getValue() == peer ? 1 : 0;
        }
        return peer < 0 || peer > 7 ? -1 : count;
    }

    private int answer(int call, int[] a) {
        switch (call) {
            case 0: return allow(a[0], a[1], a[2]);
            case 1: return deny(a[0], a[1]);
            case 2: return forget(a[2]);
            case 3: return owners(peers)[a[0] & 65535];
            case 4: return length(a[0]);
            case 5: return owned(a[2]);
            case 6: return next(a[2], a[0]);
            case 7: return useless();
            default: return entries(a[2]);
        }
    }

    private static int answer(PeerRoutes x, int call, int[] a) {
        switch (call) {
            case 0: return x.allow(a[0], a[1], a[2]);
            case 1: return x.deny(a[0], a[1]);
            case 2: return x.forget(a[2]);
            case 3: return x.owner(a[0]);
            case 4: return x.length(a[0]);
            case 5: return x.owned(a[2]);
            case 6: return x.next(a[2], a[0]);
            case 7: return x.useless();
            default: return x.entries(a[2]);
        }
    }

    private static int pickCall(Random random) {
        int n = random.nextInt(100);
        if (n < 45) {
            return 0;
        }
        if (n < 55) {
            return 1;
        }
        return n < 57 ? 2 : 3 + random.nextInt(6);
    }

    // Crowded runs stay in a few short or a few long prefixes of one region,
    // where covering, replacing and running out of room happen often.
    private static int[] pickArguments(Random random, int kind) {
        int address = random.nextInt(ADDRESSES);
        int length = random.nextInt(17);
        int peer = random.nextInt(kind == 3 ? 2 : 8);
        if (kind == 1) {
            length = random.nextInt(5);
        } else if (kind == 2) {
            address = 0xFFF0 + random.nextInt(16);
            length = 12 + random.nextInt(5);
        } else if (kind == 3) {
            address = random.nextInt(8) << 13 | random.nextInt(2);
            length = random.nextInt(4);
        }
        switch (random.nextInt(24)) {
            case 0: address += random.nextInt() << 16; break;
            case 1: address = random.nextInt(); break;
            case 2: length = random.nextBoolean() ? -1 : 17; break;
            case 3: length = random.nextInt(); break;
            case 4: peer = random.nextBoolean() ? -1 : 8; break;
            case 5: peer = -1; break;
            case 6: peer = random.nextBoolean() ? -2 : random.nextInt(); break;
            case 7: address = random.nextBoolean() ? 65535 : 65536; break;
            default: break;
        }
        return new int[] {address, length, peer};
    }

    public static void main(String[] args) {
        int wrong = 0;
        for (int run = 0; run < RUNS; run++) {
            Random random = new Random(run);
            PeerRoutes x = new PeerRoutes();
            ModelTest model = new ModelTest();
            for (int i = 0; i < CALLS; i++) {
                int call = pickCall(random);
                int[] a = pickArguments(random, run % 4);
                int got = answer(x, call, a);
                int want = model.answer(call, a);
                if (got != want) {
                    wrong++;
                    System.out.println("run " + run + ", call " + i + ": " + NAMES[call]
                        + " with address/from " + a[0] + ", length " + a[1] + ", peer " + a[2]
                        + " answered " + got + ", due is " + want);
                }
            }
        }
        System.out.println(wrong == 0 ? "all answers are the model's" : wrong + " answers are not the model's");
        if (wrong != 0) {
            System.exit(1);
        }
    }
}
