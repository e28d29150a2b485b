// The document's promises one by one with ordinary inputs. Edges and wrong
// inputs, and with them the promises 1 and 11, are in BoundariesTest.
public final class PromisesTest {
    private static int wrong = 0;

    private static void due(String call, int got, int want) {
        if (got != want) {
            wrong++;
            System.out.println(call + " answered " + got + ", due is " + want);
        }
    }

    public static void main(String[] args) {
        allowGivesAPrefixAPeer();
        allowReplacesThePeerOfAHeldPrefix();
        allowKeepsPrefixesOfOneAddressApart();
        denyDropsAPrefix();
        forgetDropsAllEntriesOfThePeer();
        ownerIsThePeerOfTheLongestPrefix();
        lengthTellsTheSettlingPrefix();
        ownedCountsAddresses();
        nextFindsTheLeastAddress();
        uselessCountsEntriesLeftOutAlone();
        uselessLooksAtTheNextOuter();
        entriesCountsThePeersEntries();
        objectsShareNothing();
        System.out.println(wrong == 0 ? "all promises hold" : wrong + " answers are not as due");
        if (wrong != 0) {
            System.exit(1);
        }
    }

    private static void allowGivesAPrefixAPeer() {
        PeerRoutes x = new PeerRoutes();
        due("allow(0x1234, 8, 3)", x.allow(0x1234, 8, 3), 1);
        due("owner below", x.owner(0x11FF), -1);
        due("owner at its first", x.owner(0x1200), 3);
        due("owner at its last", x.owner(0x12FF), 3);
        due("owner behind", x.owner(0x1300), -1);
        due("allow, least peer, whole length", x.allow(0xFFFF, 16, 0), 2);
        due("owner(0xFFFF)", x.owner(0xFFFF), 0);
        due("owner(0xFFFE)", x.owner(0xFFFE), -1);
        due("allow, greatest peer, length 0", x.allow(0xFFFF, 0, 7), 3);
        due("owner(0)", x.owner(0), 7);
        due("owner(0xFFFE) now", x.owner(0xFFFE), 7);
    }

    private static void allowReplacesThePeerOfAHeldPrefix() {
        PeerRoutes x = new PeerRoutes();
        due("allow", x.allow(0x1200, 8, 3), 1);
        due("allow, same prefix by another address", x.allow(0x12AB, 8, 4), 1);
        due("owner", x.owner(0x1200), 4);
        due("entries(3)", x.entries(3), 0);
        due("entries(4)", x.entries(4), 1);
        due("allow, same prefix, same peer", x.allow(0x1200, 8, 4), 1);
        due("deny", x.deny(0x1200, 8), 0);
        due("owner after deny", x.owner(0x1200), -1);
    }

    private static void allowKeepsPrefixesOfOneAddressApart() {
        PeerRoutes x = new PeerRoutes();
        for (int length = 0; length <= 16; length++) {
            due("allow(0, " + length + ")", x.allow(0, length, length % 8), length + 1);
        }
        for (int length = 16; length >= 0; length--) {
            due("length(0)", x.length(0), length);
            due("owner(0)", x.owner(0), length % 8);
            due("deny(0, " + length + ")", x.deny(0, length), length);
        }
    }

    private static PeerRoutes full() {
        PeerRoutes x = new PeerRoutes();
        for (int i = 0; i < 32; i++) {
            due("filling", x.allow(i * 256, 8, i % 8), i + 1);
        }
        return x;
    }

    private static void denyDropsAPrefix() {
        PeerRoutes x = new PeerRoutes();
        x.allow(0x1200, 8, 1);
        x.allow(0x1200, 12, 2);
        x.allow(0x3400, 8, 3);
        due("deny by another covered address", x.deny(0x120F, 12), 2);
        due("owner falls to the shorter prefix", x.owner(0x1200), 1);
        due("deny again", x.deny(0x120F, 12), -1);
        due("deny with higher bits", x.deny(0x70000 | 0x34FF, 8), 1);
        due("owner(0x3400)", x.owner(0x3400), -1);
        due("deny with a negative address", x.deny(0xFFFF1200, 8), 0);
        due("owned(-1)", x.owned(-1), 65536);
    }

    private static void forgetDropsAllEntriesOfThePeer() {
        PeerRoutes x = full();
        due("forget(7)", x.forget(7), 4);
        due("owned(7)", x.owned(7), 0);
        due("entries(7)", x.entries(7), 0);
        due("forget(7) again", x.forget(7), 0);
        due("forget(0)", x.forget(0), 4);
        due("owner(0)", x.owner(0), -1);
        due("owner(256)", x.owner(256), 1);
        due("deny a forgotten one", x.deny(0, 8), -1);
        due("allow a forgotten one", x.allow(0, 8, 1), 25);
        due("entries(1)", x.entries(1), 5);
    }

    private static void ownerIsThePeerOfTheLongestPrefix() {
        PeerRoutes x = new PeerRoutes();
        x.allow(0x1234, 16, 5);
        x.allow(0x1200, 8, 6);
        x.allow(0x1230, 12, 7);
        x.allow(0x1000, 4, 4);
        due("owner, four cover", x.owner(0x1234), 5);
        due("owner, three cover", x.owner(0x1235), 7);
        due("owner, two cover", x.owner(0x1240), 6);
        due("owner, one covers", x.owner(0x1300), 4);
        due("owner, none covers", x.owner(0x2000), -1);
    }

    private static void lengthTellsTheSettlingPrefix() {
        PeerRoutes x = new PeerRoutes();
        due("length, nothing held", x.length(7), -1);
        x.allow(0, 0, 2);
        due("length, length 0 settles", x.length(7), 0);
        x.allow(0, 15, 2);
        due("length, same peer, longer prefix", x.length(1), 15);
        due("length behind it", x.length(2), 0);
        x.deny(0, 0);
        due("length behind it, nobody", x.length(2), -1);
        due("length, longer still held", x.length(1), 15);
    }

    private static void ownedCountsAddresses() {
        PeerRoutes x = new PeerRoutes();
        x.allow(0, 0, 1);
        due("owned(1), all", x.owned(1), 65536);
        due("owned(-1), all owned", x.owned(-1), 0);
        x.allow(0x8000, 1, 2);
        x.allow(0x8000, 8, 1);
        x.allow(0x8000, 16, 2);
        x.allow(0x80FF, 16, 3);
        due("owned(1)", x.owned(1), 32768 + 254);
        due("owned(2)", x.owned(2), 32768 - 256 + 1);
        due("owned(3)", x.owned(3), 1);
        due("owned(0)", x.owned(0), 0);
        x.deny(0, 0);
        due("owned(-1), half", x.owned(-1), 32768);
        due("owned(1), half", x.owned(1), 254);
        x.allow(0x0001, 16, 0);
        due("owned(0), one", x.owned(0), 1);
        due("owned(7)", x.owned(7), 0);
        due("owned(-1), one less", x.owned(-1), 32767);
    }

    private static void nextFindsTheLeastAddress() {
        PeerRoutes x = new PeerRoutes();
        x.allow(0x4000, 4, 1);
        x.allow(0x4000, 8, 2);
        x.allow(0x4800, 8, 2);
        x.allow(0xFFFF, 16, 1);
        due("next(1, 0), behind a longer prefix", x.next(1, 0), 0x4100);
        due("next(1, first)", x.next(1, 0x4100), 0x4100);
        due("next(1, inside)", x.next(1, 0x4123), 0x4123);
        due("next(1, in the longer prefix)", x.next(1, 0x4850), 0x4900);
        due("next(1, at its last)", x.next(1, 0x4FFF), 0x4FFF);
        due("next(1, behind it)", x.next(1, 0x5000), 0xFFFF);
        due("next(1, 65535)", x.next(1, 0xFFFF), 0xFFFF);
        due("next(2, 0)", x.next(2, 0), 0x4000);
        due("next(2, behind the first)", x.next(2, 0x4100), 0x4800);
        due("next(2, behind the second)", x.next(2, 0x4900), -1);
        due("next(-1, 0)", x.next(-1, 0), 0);
        due("next(-1, at an owned one)", x.next(-1, 0x4000), 0x5000);
        due("next(-1, 65534)", x.next(-1, 0xFFFE), 0xFFFE);
        due("next(-1, 65535)", x.next(-1, 0xFFFF), -1);
        due("next(0, 0)", x.next(0, 0), -1);
    }

    private static void uselessCountsEntriesLeftOutAlone() {
        PeerRoutes x = new PeerRoutes();
        x.allow(0x1000, 4, 1);
        due("useless, one entry", x.useless(), 0);
        x.allow(0x1000, 8, 1);
        due("useless, same peer within", x.useless(), 1);
        x.allow(0x1000, 6, 2);
        due("useless, other peer between", x.useless(), 0);
        x.allow(0x1000, 6, 1);
        due("useless, three of one peer", x.useless(), 2);
        x.deny(0x1000, 4);
        due("useless, two of one peer", x.useless(), 1);
        x.allow(0x2000, 4, 3);
        x.allow(0x2000, 5, 4);
        due("useless, half covered", x.useless(), 1);
        x.allow(0x2800, 5, 5);
        due("useless, wholly covered", x.useless(), 2);
        x.allow(0x2800, 5, 3);
        due("useless, the half of its own peer and the covered whole", x.useless(), 3);
    }

    private static void uselessLooksAtTheNextOuter() {
        PeerRoutes x = new PeerRoutes();
        x.allow(0, 15, 1);
        x.allow(0, 16, 2);
        due("useless, one address left", x.useless(), 0);
        x.allow(1, 16, 3);
        due("useless, no address left", x.useless(), 1);
        x.allow(0, 0, 3);
        due("useless, next outer is of another peer", x.useless(), 1);
        x.deny(0, 15);
        due("useless, next outer is of the same peer", x.useless(), 1);
        due("useless changes nothing", x.useless(), 1);
        x.allow(0, 1, 4);
        x.allow(0x8000, 1, 5);
        due("useless, length 0 wholly covered", x.useless(), 1);
        due("owned(3)", x.owned(3), 1);
    }

    private static void entriesCountsThePeersEntries() {
        PeerRoutes x = full();
        for (int peer = 0; peer <= 7; peer++) {
            due("entries(" + peer + ")", x.entries(peer), 4);
        }
        for (int i = 0; i < 32; i++) {
            x.allow(i * 256, 8, 6);
        }
        due("entries(6), all", x.entries(6), 32);
        due("forget(6), all", x.forget(6), 32);
        due("entries(6), none", x.entries(6), 0);
    }

    private static void objectsShareNothing() {
        PeerRoutes x = new PeerRoutes();
        PeerRoutes y = new PeerRoutes();
        x.allow(0, 0, 1);
        due("other object's owner", y.owner(0), -1);
        due("other object's first entry", y.allow(0, 1, 2), 1);
        due("owner", x.owner(0), 1);
    }
}
