public final class PeerRoutes {
    private static final int ADDRESS_BITS = 16;
    private static final int ADDRESSES = 65536;
    private static final int HIGHEST_ADDRESS = 65535;
    private static final int HIGHEST_PEER = 7;
    private static final int NOBODY = -1;
    private static final int SLOTS = 32;
    private static final int NO_SLOT = -1;
    private static final int REFUSED = -1;
    private static final int NONE = -1;
    private static final int NO_SUCH_OWNER = -2;

    // A slot whose "held" is false is free, and its other numbers mean nothing.
    private final boolean[] held = new boolean[SLOTS];
    private final int[] firstAddress = new int[SLOTS];
    private final int[] bits = new int[SLOTS];
    private final int[] peerOf = new int[SLOTS];

    public PeerRoutes() {
    }

    public int allow(int address, int length, int peer) {
        if (!isLength(length) || !isPeer(peer)) {
            return REFUSED;
        }
        int slot = slotOfPrefix(address, length);
        if (slot == NO_SLOT) {
            slot = freeSlot();
        }
        if (slot == NO_SLOT) {
            return REFUSED;
        }
        held[slot] = true;
        firstAddress[slot] = firstCovered(address, length);
        bits[slot] = length;
        peerOf[slot] = peer;
        return heldEntries();
    }

    public int deny(int address, int length) {
        if (!isLength(length)) {
            return REFUSED;
        }
        int slot = slotOfPrefix(address, length);
        if (slot == NO_SLOT) {
            return REFUSED;
        }
        held[slot] = false;
        return heldEntries();
    }

    public int forget(int peer) {
        if (!isPeer(peer)) {
            return REFUSED;
        }
        int forgotten = 0;
        for (int slot = 0; slot < SLOTS; slot++) {
            if (isEntryOf(slot, peer)) {
                held[slot] = false;
                forgotten++;
            }
        }
        return forgotten;
    }

    public int owner(int address) {
        int slot = longestCover(address, ADDRESS_BITS);
        return slot == NO_SLOT ? NOBODY : peerOf[slot];
    }

    public int length(int address) {
        int slot = longestCover(address, ADDRESS_BITS);
        return slot == NO_SLOT ? NONE : bits[slot];
    }

    public int owned(int peer) {
        if (!isOwner(peer)) {
            return NO_SUCH_OWNER;
        }
        if (peer == NOBODY) {
            return ADDRESSES - coveredDirectlyInside(NO_SLOT);
        }
        int total = 0;
        for (int slot = 0; slot < SLOTS; slot++) {
            if (isEntryOf(slot, peer)) {
                total += sizeOf(slot) - coveredDirectlyInside(slot);
            }
        }
        return total;
    }

    // The owner changes only where a held prefix begins or just behind its
    // end, so the answer is one of these places or the start of the search.
    public int next(int peer, int from) {
        if (!isOwner(peer)) {
            return NO_SUCH_OWNER;
        }
        int lowest = from < 0 ? 0 : from;
        int found = lesserOwned(peer, lowest, lowest, ADDRESSES);
        for (int slot = 0; slot < SLOTS; slot++) {
            if (held[slot]) {
                int begin = firstAddress[slot];
                int behind = begin + sizeOf(slot);
                found = lesserOwned(peer, lowest, begin, found);
                found = lesserOwned(peer, lowest, behind, found);
            }
        }
        return found < ADDRESSES ? found : NONE;
    }

    public int useless() {
        int count = 0;
        for (int slot = 0; slot < SLOTS; slot++) {
            if (held[slot] && isUseless(slot)) {
                count++;
            }
        }
        return count;
    }

    public int entries(int peer) {
        if (!isPeer(peer)) {
            return REFUSED;
        }
        int count = 0;
        for (int slot = 0; slot < SLOTS; slot++) {
            if (isEntryOf(slot, peer)) {
                count++;
            }
        }
        return count;
    }

    private static boolean isLength(int length) {
        return length >= 0 && length <= ADDRESS_BITS;
    }

    private static boolean isPeer(int peer) {
        return peer >= 0 && peer <= HIGHEST_PEER;
    }

    private static boolean isOwner(int peer) {
        return peer == NOBODY || isPeer(peer);
    }

    // The mask has no bit above an address's 16, so any int may be handed in
    // as an address: its higher bits fall away here.
    private static int firstCovered(int address, int length) {
        int mask = (HIGHEST_ADDRESS << (ADDRESS_BITS - length)) & HIGHEST_ADDRESS;
        return address & mask;
    }

    private boolean isEntryOf(int slot, int peer) {
        return held[slot] && peerOf[slot] == peer;
    }

    private int sizeOf(int slot) {
        return 1 << (ADDRESS_BITS - bits[slot]);
    }

    private boolean covers(int slot, int address) {
        int differing = (address ^ firstAddress[slot]) & HIGHEST_ADDRESS;
        return held[slot] && differing >> (ADDRESS_BITS - bits[slot]) == 0;
    }

    private int heldEntries() {
        int count = 0;
        for (int slot = 0; slot < SLOTS; slot++) {
            if (held[slot]) {
                count++;
            }
        }
        return count;
    }

    private int freeSlot() {
        for (int slot = 0; slot < SLOTS; slot++) {
            if (!held[slot]) {
                return slot;
            }
        }
        return NO_SLOT;
    }

    private int slotOfPrefix(int address, int length) {
        for (int slot = 0; slot < SLOTS; slot++) {
            if (bits[slot] == length && covers(slot, address)) {
                return slot;
            }
        }
        return NO_SLOT;
    }

    private int longestCover(int address, int mostBits) {
        int best = NO_SLOT;
        for (int slot = 0; slot < SLOTS; slot++) {
            if (bits[slot] <= mostBits && covers(slot, address)) {
                if (best == NO_SLOT || bits[slot] > bits[best]) {
                    best = slot;
                }
            }
        }
        return best;
    }

    // The entry that would settle this entry's addresses in its place.
    private int enclosingSlot(int slot) {
        return longestCover(firstAddress[slot], bits[slot] - 1);
    }

    // Two prefixes are disjoint or one lies within the other, so the entries
    // with the same enclosing one never overlap and their sizes add up.
    private int coveredDirectlyInside(int outer) {
        int total = 0;
        for (int slot = 0; slot < SLOTS; slot++) {
            if (held[slot] && enclosingSlot(slot) == outer) {
                total += sizeOf(slot);
            }
        }
        return total;
    }

    // Without the entry, what it settles goes to the enclosing one: nothing
    // changes if that has the same peer or there is nothing to hand on.
    private boolean isUseless(int slot) {
        int outer = enclosingSlot(slot);
        if (outer != NO_SLOT && peerOf[outer] == peerOf[slot]) {
            return true;
        }
        return coveredDirectlyInside(slot) == sizeOf(slot);
    }

    private int lesserOwned(int peer, int lowest, int candidate, int found) {
        if (candidate < lowest || candidate >= found) {
            return found;
        }
        return owner(candidate) == peer ? candidate : found;
    }
}
