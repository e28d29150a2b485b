// The document's promises one by one: ordinary inputs, edges, wrong inputs.
public final class PromisesTest {
    private static final int LEAST = Integer.MIN_VALUE;
    private static final int GREATEST = Integer.MAX_VALUE;
    private static int wrong = 0;

    private static void due(String call, int got, int want) {
        if (got != want) {
            wrong++;
            System.out.println(call + " answered " + got + ", due is " + want);
        }
    }

    public static void main(String[] args) {
        newObjectHasNoEntry();
        allowGivesAPrefixAPeer();
        allowReplacesThePeerOfAHeldPrefix();
        allowTakesSixteenBitsOfTheAddress();
        allowKeepsPrefixesOfOneAddressApart();
        allowRefusesWrongInputs();
        allowRefusesThe33rdEntry();
        denyDropsAPrefix();
        denyRefusesWrongInputs();
        forgetDropsAllEntriesOfThePeer();
        ownerIsThePeerOfTheLongestPrefix();
        ownerAndLengthTakeSixteenBits();
        lengthTellsTheSettlingPrefix();
        ownedCountsAddresses();
        nextFindsTheLeastAddress();
        nextLooksFromAnyInt();
        uselessCountsEntriesLeftOutAlone();
        uselessAtTheEdges();
        entriesCountsThePeersEntries();
        nextTestsThePeerFirst();
        objectsShareNothing();
        System.out.println(wrong == 0 ? "all promises hold" : wrong + " answers are not as due");
        if (wrong != 0) {
            System.exit(1);
        }
    }

    private static void newObjectHasNoEntry() {
        PeerRoutes x = new PeerRoutes();
        for (int peer = 0; peer <= 7; peer++) {
            due("new: entries", x.entries(peer), 0);
            due("new: owned", x.owned(peer), 0);
            due("new: next", x.next(peer, 0), -1);
            due("new: forget", x.forget(peer), 0);
        }
        due("new: owner(0)", x.owner(0), -1);
        due("new: owner(65535)", x.owner(65535), -1);
        due("new: length(0)", x.length(0), -1);
        due("new: owned(-1)", x.owned(-1), 65536);
        due("new: next(-1, 0)", x.next(-1, 0), 0);
        due("new: useless()", x.useless(), 0);
        for (int length = 0; length <= 16; length++) {
            due("new: deny", x.deny(0, length), -1);
        }
        due("new: first allow", x.allow(0, 0, 0), 1);
    }

    private static void allowGivesAPrefixAPeer() {
        PeerRoutes x = new PeerRoutes();
        due("allow(0x1234, 8, 3)", x.allow(0x1234, 8, 3), 1);
        due("owner below", x.owner(0x11FF), -1);
        due("owner at its first", x.owner(0x1200), 3);
        due("owner at its last", x.owner(0x12FF), 3);
        due("owner behind", x.owner(0x1300), -1);
        due("allow, least peer, whole length", x.allow(0xFFFF, 16, 0), 2);
        due("owner(0xFFFF)", x.owner(0xFFFF), 0);
        due("owner(0xFFFE)", x.owner(0xFFFE), -1);
        due("allow, greatest peer, length 0", x.allow(0xFFFF, 0, 7), 3);
        due("owner(0)", x.owner(0), 7);
        due("owner(0xFFFE) now", x.owner(0xFFFE), 7);
    }

    private static void allowReplacesThePeerOfAHeldPrefix() {
        PeerRoutes x = new PeerRoutes();
        due("allow", x.allow(0x1200, 8, 3), 1);
        due("allow, same prefix by another address", x.allow(0x12AB, 8, 4), 1);
        due("owner", x.owner(0x1200), 4);
        due("entries(3)", x.entries(3), 0);
        due("entries(4)", x.entries(4), 1);
        due("allow, same prefix, same peer", x.allow(0x1200, 8, 4), 1);
        due("deny", x.deny(0x1200, 8), 0);
        due("owner after deny", x.owner(0x1200), -1);
    }

    private static void allowTakesSixteenBitsOfTheAddress() {
        PeerRoutes x = new PeerRoutes();
        due("allow(-1, 16, 1)", x.allow(-1, 16, 1), 1);
        due("owner(65535)", x.owner(65535), 1);
        due("allow(65535, 16, 2)", x.allow(65535, 16, 2), 1);
        due("allow(65536 + 5, 16, 3)", x.allow(65536 + 5, 16, 3), 2);
        due("owner(5)", x.owner(5), 3);
        due("allow(least, 1, 4)", x.allow(LEAST, 1, 4), 3);
        due("owner(0)", x.owner(0), 4);
        due("owner(32768)", x.owner(32768), -1);
        due("allow(greatest, 1, 5)", x.allow(GREATEST, 1, 5), 4);
        due("owner(32768) now", x.owner(32768), 5);
    }

    private static void allowKeepsPrefixesOfOneAddressApart() {
        PeerRoutes x = new PeerRoutes();
        for (int length = 0; length <= 16; length++) {
            due("allow(0, " + length + ")", x.allow(0, length, length % 8), length + 1);
        }
        for (int length = 16; length >= 0; length--) {
            due("length(0)", x.length(0), length);
            due("owner(0)", x.owner(0), length % 8);
            due("deny(0, " + length + ")", x.deny(0, length), length);
        }
    }

    private static void allowRefusesWrongInputs() {
        PeerRoutes x = new PeerRoutes();
        x.allow(0, 4, 2);
        int[] lengths = {-1, 17, 32, 36, LEAST, GREATEST};
        for (int length : lengths) {
            due("allow, length " + length, x.allow(0, length, 1), -1);
        }
        int[] peers = {-1, 8, LEAST, GREATEST};
        for (int peer : peers) {
            due("allow, held, peer " + peer, x.allow(0, 4, peer), -1);
            due("allow, not held, peer " + peer, x.allow(0, 5, peer), -1);
        }
        due("owner(0) as before", x.owner(0), 2);
        due("owned(2) as before", x.owned(2), 4096);
        due("owned(-1) as before", x.owned(-1), 65536 - 4096);
        due("entries(1) as before", x.entries(1), 0);
        due("entries(2) as before", x.entries(2), 1);
    }

    private static PeerRoutes full() {
        PeerRoutes x = new PeerRoutes();
        for (int i = 0; i < 32; i++) {
            due("filling", x.allow(i * 256, 8, i % 8), i + 1);
        }
        return x;
    }

    private static void allowRefusesThe33rdEntry() {
        PeerRoutes x = full();
        due("allow when full", x.allow(0xFF00, 8, 1), -1);
        due("allow when full, longer prefix of a held one", x.allow(0, 9, 1), -1);
        due("owner as before", x.owner(0xFF00), -1);
        due("owner of a held one as before", x.owner(0), 0);
        due("entries(1) as before", x.entries(1), 4);
        due("allow when full, held prefix", x.allow(31 * 256, 8, 0), 32);
        due("owner of the replaced", x.owner(31 * 256), 0);
        due("entries(0)", x.entries(0), 5);
        due("deny when full", x.deny(5 * 256, 8), 31);
        due("allow after deny", x.allow(0xFF00, 8, 1), 32);
        due("owner of the new one", x.owner(0xFFFF), 1);
        due("owner of the denied one", x.owner(5 * 256), -1);
        due("allow, full again", x.allow(5 * 256, 8, 5), -1);
        due("forget makes room", x.forget(2), 4);
        due("allow after forget", x.allow(5 * 256, 8, 5), 29);
    }

    private static void denyDropsAPrefix() {
        PeerRoutes x = new PeerRoutes();
        x.allow(0x1200, 8, 1);
        x.allow(0x1200, 12, 2);
        x.allow(0x3400, 8, 3);
        due("deny by another covered address", x.deny(0x120F, 12), 2);
        due("owner falls to the shorter prefix", x.owner(0x1200), 1);
        due("deny again", x.deny(0x120F, 12), -1);
        due("deny with higher bits", x.deny(0x70000 | 0x34FF, 8), 1);
        due("owner(0x3400)", x.owner(0x3400), -1);
        due("deny with a negative address", x.deny(0xFFFF1200, 8), 0);
        due("owned(-1)", x.owned(-1), 65536);
    }

    private static void denyRefusesWrongInputs() {
        PeerRoutes x = new PeerRoutes();
        x.allow(0, 0, 1);
        x.allow(0, 16, 2);
        int[] lengths = {-1, 17, 32, 48, -16, LEAST, GREATEST};
        for (int length : lengths) {
            due("deny, length " + length, x.deny(0, length), -1);
        }
        due("deny, covered but not held", x.deny(0, 1), -1);
        due("deny, other prefix of a held length", x.deny(1, 16), -1);
        due("owner(0) as before", x.owner(0), 2);
        due("owner(1) as before", x.owner(1), 1);
        due("deny what is held", x.deny(0, 16), 1);
        due("deny the last", x.deny(12345, 0), 0);
    }

    private static void forgetDropsAllEntriesOfThePeer() {
        PeerRoutes x = full();
        due("forget(-1)", x.forget(-1), -1);
        due("forget(8)", x.forget(8), -1);
        due("forget(least)", x.forget(LEAST), -1);
        due("forget(greatest)", x.forget(GREATEST), -1);
        due("owned(-1) as before", x.owned(-1), 65536 - 32 * 256);
        due("forget(7)", x.forget(7), 4);
        due("owned(7)", x.owned(7), 0);
        due("entries(7)", x.entries(7), 0);
        due("forget(7) again", x.forget(7), 0);
        due("forget(0)", x.forget(0), 4);
        due("owner(0)", x.owner(0), -1);
        due("owner(256)", x.owner(256), 1);
        due("deny a forgotten one", x.deny(0, 8), -1);
        due("allow a forgotten one", x.allow(0, 8, 1), 25);
        due("entries(1)", x.entries(1), 5);
    }

    private static void ownerIsThePeerOfTheLongestPrefix() {
        PeerRoutes x = new PeerRoutes();
        x.allow(0x1234, 16, 5);
        x.allow(0x1200, 8, 6);
        x.allow(0x1230, 12, 7);
        x.allow(0x1000, 4, 4);
        due("owner, four cover", x.owner(0x1234), 5);
        due("owner, three cover", x.owner(0x1235), 7);
        due("owner, two cover", x.owner(0x1240), 6);
        due("owner, one covers", x.owner(0x1300), 4);
        due("owner, none covers", x.owner(0x2000), -1);
    }

    private static void ownerAndLengthTakeSixteenBits() {
        PeerRoutes x = new PeerRoutes();
        x.allow(65535, 16, 3);
        x.allow(0, 16, 4);
        int[] last = {-1, 65535, 131071, GREATEST};
        for (int address : last) {
            due("owner(" + address + ")", x.owner(address), 3);
            due("length(" + address + ")", x.length(address), 16);
        }
        int[] first = {0, 65536, -65536, LEAST};
        for (int address : first) {
            due("owner(" + address + ")", x.owner(address), 4);
            due("length(" + address + ")", x.length(address), 16);
        }
        due("owner(65537)", x.owner(65537), -1);
        due("length(65537)", x.length(65537), -1);
    }

    private static void lengthTellsTheSettlingPrefix() {
        PeerRoutes x = new PeerRoutes();
        due("length, nothing held", x.length(7), -1);
        x.allow(0, 0, 2);
        due("length, length 0 settles", x.length(7), 0);
        x.allow(0, 15, 2);
        due("length, same peer, longer prefix", x.length(1), 15);
        due("length behind it", x.length(2), 0);
        x.deny(0, 0);
        due("length behind it, nobody", x.length(2), -1);
        due("length, longer still held", x.length(1), 15);
    }

    private static void ownedCountsAddresses() {
        PeerRoutes x = new PeerRoutes();
        x.allow(0, 0, 1);
        due("owned(1), all", x.owned(1), 65536);
        due("owned(-1), all owned", x.owned(-1), 0);
        x.allow(0x8000, 1, 2);
        x.allow(0x8000, 8, 1);
        x.allow(0x8000, 16, 2);
        x.allow(0x80FF, 16, 3);
        due("owned(1)", x.owned(1), 32768 + 254);
        due("owned(2)", x.owned(2), 32768 - 256 + 1);
        due("owned(3)", x.owned(3), 1);
        due("owned(0)", x.owned(0), 0);
        x.deny(0, 0);
        due("owned(-1), half", x.owned(-1), 32768);
        due("owned(1), half", x.owned(1), 254);
        x.allow(0x0001, 16, 0);
        due("owned(0), one", x.owned(0), 1);
        due("owned(7)", x.owned(7), 0);
        due("owned(-1), one less", x.owned(-1), 32767);
        due("owned(-2)", x.owned(-2), -2);
        due("owned(8)", x.owned(8), -2);
        due("owned(least)", x.owned(LEAST), -2);
        due("owned(greatest)", x.owned(GREATEST), -2);
    }

    private static void nextFindsTheLeastAddress() {
        PeerRoutes x = new PeerRoutes();
        x.allow(0x4000, 4, 1);
        x.allow(0x4000, 8, 2);
        x.allow(0x4800, 8, 2);
        x.allow(0xFFFF, 16, 1);
        due("next(1, 0), behind a longer prefix", x.next(1, 0), 0x4100);
        due("next(1, first)", x.next(1, 0x4100), 0x4100);
        due("next(1, inside)", x.next(1, 0x4123), 0x4123);
        due("next(1, in the longer prefix)", x.next(1, 0x4850), 0x4900);
        due("next(1, at its last)", x.next(1, 0x4FFF), 0x4FFF);
        due("next(1, behind it)", x.next(1, 0x5000), 0xFFFF);
        due("next(1, 65535)", x.next(1, 0xFFFF), 0xFFFF);
        due("next(2, 0)", x.next(2, 0), 0x4000);
        due("next(2, behind the first)", x.next(2, 0x4100), 0x4800);
        due("next(2, behind the second)", x.next(2, 0x4900), -1);
        due("next(-1, 0)", x.next(-1, 0), 0);
        due("next(-1, at an owned one)", x.next(-1, 0x4000), 0x5000);
        due("next(-1, 65534)", x.next(-1, 0xFFFE), 0xFFFE);
        due("next(-1, 65535)", x.next(-1, 0xFFFF), -1);
        due("next(0, 0)", x.next(0, 0), -1);
    }

    private static void nextLooksFromAnyInt() {
        PeerRoutes x = new PeerRoutes();
        x.allow(0, 1, 7);
        due("next(7, -1)", x.next(7, -1), 0);
        due("next(7, least)", x.next(7, LEAST), 0);
        due("next(-1, least)", x.next(-1, LEAST), 32768);
        due("next(7, 65536)", x.next(7, 65536), -1);
        due("next(-1, 65536)", x.next(-1, 65536), -1);
        due("next(7, greatest)", x.next(7, GREATEST), -1);
        due("next(-1, greatest)", x.next(-1, GREATEST), -1);
        x.allow(0, 0, 7);
        due("next(-1, 0), all owned", x.next(-1, 0), -1);
    }

    private static void uselessCountsEntriesLeftOutAlone() {
        PeerRoutes x = new PeerRoutes();
        x.allow(0x1000, 4, 1);
        due("useless, one entry", x.useless(), 0);
        x.allow(0x1000, 8, 1);
        due("useless, same peer within", x.useless(), 1);
        x.allow(0x1000, 6, 2);
        due("useless, other peer between", x.useless(), 0);
        x.allow(0x1000, 6, 1);
        due("useless, three of one peer", x.useless(), 2);
        x.deny(0x1000, 4);
        due("useless, two of one peer", x.useless(), 1);
        x.allow(0x2000, 4, 3);
        x.allow(0x2000, 5, 4);
        due("useless, half covered", x.useless(), 1);
        x.allow(0x2800, 5, 5);
        due("useless, wholly covered", x.useless(), 2);
        x.allow(0x2800, 5, 3);
        due("useless, the half of its own peer and the covered whole", x.useless(), 3);
    }

    private static void uselessAtTheEdges() {
        PeerRoutes x = new PeerRoutes();
        x.allow(0, 15, 1);
        x.allow(0, 16, 2);
        due("useless, one address left", x.useless(), 0);
        x.allow(1, 16, 3);
        due("useless, no address left", x.useless(), 1);
        x.allow(0, 0, 3);
        due("useless, next outer is of another peer", x.useless(), 1);
        x.deny(0, 15);
        due("useless, next outer is of the same peer", x.useless(), 1);
        due("useless changes nothing", x.useless(), 1);
        x.allow(0, 1, 4);
        x.allow(0x8000, 1, 5);
        due("useless, length 0 wholly covered", x.useless(), 1);
        due("owned(3)", x.owned(3), 1);
    }

    private static void entriesCountsThePeersEntries() {
        PeerRoutes x = full();
        for (int peer = 0; peer <= 7; peer++) {
            due("entries(" + peer + ")", x.entries(peer), 4);
        }
        due("entries(-1)", x.entries(-1), -1);
        due("entries(8)", x.entries(8), -1);
        due("entries(least)", x.entries(LEAST), -1);
        due("entries(greatest)", x.entries(GREATEST), -1);
        for (int i = 0; i < 32; i++) {
            x.allow(i * 256, 8, 6);
        }
        due("entries(6), all", x.entries(6), 32);
        due("forget(6), all", x.forget(6), 32);
        due("entries(6), none", x.entries(6), 0);
    }

    private static void nextTestsThePeerFirst() {
        PeerRoutes x = new PeerRoutes();
        int[] peers = {-2, 8, LEAST, GREATEST};
        int[] froms = {0, 65536, -1, LEAST, GREATEST};
        for (int peer : peers) {
            for (int from : froms) {
                due("next(" + peer + ", " + from + ")", x.next(peer, from), -2);
            }
        }
    }

    private static void objectsShareNothing() {
        PeerRoutes x = new PeerRoutes();
        PeerRoutes y = new PeerRoutes();
        x.allow(0, 0, 1);
        due("other object's owner", y.owner(0), -1);
        due("other object's first entry", y.allow(0, 1, 2), 1);
        due("owner", x.owner(0), 1);
    }
}
