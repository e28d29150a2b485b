import java.util.ArrayList;
import java.util.List;

// The sentences of the document that name a boundary case, in its order, each
// with a test of its own. No object here is asked more than 512 times, since
// what later calls answer is free.
public final class BoundariesTest {
    private static final int LEAST = Integer.MIN_VALUE;
    private static final int GREATEST = Integer.MAX_VALUE;
    private static final int CALLS = 512;

    // Beside the first refused on either side and the ends of int, numbers that
    // would be taken if a shift, a byte or a short cut off their higher bits.
    private static final int[] WRONG_LENGTHS = {
        -1, 17, -16, 31, 32, 36, 256, 264, 65536, LEAST, LEAST + 8, GREATEST
    };
    private static final int[] WRONG_PEERS = {
        -1, 8, -2, -7, 9, 15, 256, 259, 65536, LEAST, LEAST + 3, GREATEST
    };
    private static final int[] WRONG_OWNERS = {
        -2, 8, -3, -8, 9, 255, 256, 65535, 65536, LEAST, LEAST + 3, GREATEST
    };
    private static final int[] ANY_ADDRESSES = {
        0, 1, 65534, 65535, 65536, 65537, 131071, 131072, 0x12345678,
        -1, -2, -65535, -65536, -65537, LEAST, LEAST + 1, GREATEST - 1, GREATEST
    };
    private static final int[] SIZES = {0, 1, 17, 31, 32};

    private static String sentence = "";
    private static int wrong = 0;

    private static void tests(String where, String words) {
        sentence = where + ", \"" + words + "\"";
    }

    private static void due(String call, int got, int want) {
        if (got != want) {
            wrong++;
            System.out.println(sentence + ": " + call + " answered " + got + ", due is " + want);
        }
    }

    public static void main(String[] args) {
        atMost512Calls();
        addressesAre0To65535();
        lengthsAre0To16();
        peersAre0To7();
        atMost32EntriesAreHeld();
        noPrefixIsHeldTwice();
        ownedByNobodyIfNoneCovers();
        noEntry();
        allowTakesTheLow16Bits();
        allowReplacesIfHeld();
        allowRefusesALength();
        allowRefusesAPeer();
        allowRefusesThe33rd();
        denyTakesTheLow16Bits();
        denyRefusesALength();
        denyRefusesWhatIsNotHeld();
        forgetRefusesAPeer();
        ownerTakesTheLow16Bits();
        ownerIsNobody();
        lengthTakesTheLow16Bits();
        lengthOfNobody();
        ownedByNobody();
        ownedRefusesAPeer();
        nextIsAtLeastFrom();
        nextThatNobodyOwns();
        nextFindsNone();
        nextRefusesAPeer();
        uselessIsForEachAlone();
        entriesRefusesAPeer();
        nextTestsThePeerFirst();
        System.out.println(wrong == 0 ? "all boundaries hold" : wrong + " answers are not as due");
        if (wrong != 0) {
            System.exit(1);
        }
    }

    // Entry 0 to 16: all the prefixes of 0x1234; entry 17 to 31: prefixes of
    // eight bits that have none of the others around them but length 0.
    private static int addressOf(int entry) {
        return entry <= 16 ? 0x1234 : 0x8000 + entry * 0x100;
    }

    private static int lengthOf(int entry) {
        return entry <= 16 ? entry : 8;
    }

    private static PeerRoutes withEntries(int size) {
        PeerRoutes x = new PeerRoutes();
        for (int entry = 0; entry < size; entry++) {
            int got = x.allow(addressOf(entry), lengthOf(entry), entry % 8);
            due("allow of entry " + entry, got, entry + 1);
        }
        return x;
    }

    // Full, and every address is covered by one entry, of length 5.
    private static PeerRoutes fullOfFives() {
        PeerRoutes x = new PeerRoutes();
        for (int entry = 0; entry < 32; entry++) {
            due("allow of the five " + entry, x.allow(entry << 11, 5, entry % 8), entry + 1);
        }
        return x;
    }

    // What an object that holds entries of withEntries answers from now on: it
    // is looked at from all sides, then emptied, so that a spoilt one shows.
    private static List<String> laterAnswers(PeerRoutes x) {
        List<String> answers = new ArrayList<>();
        look(x, answers);
        answers.add("allow(0xEDCB, 7, 6) = " + x.allow(0xEDCB, 7, 6));
        answers.add("allow(0xEDCB, 8, 6) = " + x.allow(0xEDCB, 8, 6));
        for (int entry = 0; entry < 32; entry += 2) {
            int got = x.deny(addressOf(entry), lengthOf(entry));
            answers.add("deny of entry " + entry + " = " + got);
        }
        look(x, answers);
        for (int peer = 0; peer <= 7; peer++) {
            answers.add("forget(" + peer + ") = " + x.forget(peer));
        }
        answers.add("owned(-1) at last = " + x.owned(-1));
        answers.add("allow(0, 0, 0) at last = " + x.allow(0, 0, 0));
        return answers;
    }

    private static void look(PeerRoutes x, List<String> answers) {
        for (int peer = -1; peer <= 7; peer++) {
            answers.add("owned(" + peer + ") = " + x.owned(peer));
            answers.add("next(" + peer + ", 0) = " + x.next(peer, 0));
            answers.add("entries(" + peer + ") = " + x.entries(peer));
        }
        answers.add("useless() = " + x.useless());
        for (int entry = 0; entry < 32; entry++) {
            // A place that this entry, if held, settles alone of the chain.
            int address = addressOf(entry) ^ (entry < 16 ? 1 << (15 - entry) : 0);
            answers.add("owner(" + address + ") = " + x.owner(address));
            answers.add("length(" + address + ") = " + x.length(address));
        }
    }

    private static void asIfNotAsked(String call, PeerRoutes asked, int size) {
        List<String> got = laterAnswers(asked);
        List<String> want = laterAnswers(withEntries(size));
        for (int i = 0; i < want.size(); i++) {
            if (!got.get(i).equals(want.get(i))) {
                wrong++;
                System.out.println(sentence + ": after " + call + " with " + size + " entries "
                    + got.get(i) + ", without it " + want.get(i));
            }
        }
    }

    private static void allowIsRefused(int size, int address, int length, int peer) {
        PeerRoutes x = withEntries(size);
        String call = "allow(" + address + ", " + length + ", " + peer + ")";
        due(call, x.allow(address, length, peer), -1);
        asIfNotAsked(call, x, size);
    }

    private static void denyIsRefused(int size, int address, int length) {
        PeerRoutes x = withEntries(size);
        String call = "deny(" + address + ", " + length + ")";
        due(call, x.deny(address, length), -1);
        asIfNotAsked(call, x, size);
    }

    // 511 calls: 32 entries, a look, and then 239 times one entry goes and
    // another comes. The prefixes of 16 bits that are held then are 256 * i + 8
    // for i from 0 to 14 and 256 * i + 7 for i from 15 to 31, with peer i % 8.
    private static PeerRoutes after511Calls() {
        PeerRoutes x = new PeerRoutes();
        for (int i = 0; i < 32; i++) {
            due("filling", x.allow(i * 256, 16, i % 8), i + 1);
        }
        due("a look", x.entries(0), 4);
        for (int pair = 0; pair < 239; pair++) {
            int i = pair % 32;
            int address = i * 256 + pair / 32;
            due("deny in pair " + pair, x.deny(address, 16), 31);
            due("allow in pair " + pair, x.allow(address + 1, 16, i % 8), 32);
        }
        return x;
    }

    private static void atMost512Calls() {
        tests("What it is", "at most 512 calls after it has been made");
        due("512th: allow, no room", after511Calls().allow(65535, 16, 1), -1);
        due("512th: allow, held", after511Calls().allow(8, 16, 1), 32);
        due("512th: deny", after511Calls().deny(31 * 256 + 7, 16), 31);
        due("512th: deny, not held", after511Calls().deny(7, 16), -1);
        due("512th: forget", after511Calls().forget(7), 4);
        due("512th: owner", after511Calls().owner(14 * 256 + 8), 6);
        due("512th: owner, nobody", after511Calls().owner(14 * 256 + 7), -1);
        due("512th: length", after511Calls().length(15 * 256 + 7), 16);
        due("512th: owned", after511Calls().owned(3), 4);
        due("512th: owned by nobody", after511Calls().owned(-1), 65536 - 32);
        due("512th: next", after511Calls().next(0, 0), 8);
        due("512th: useless", after511Calls().useless(), 0);
        due("512th: entries", after511Calls().entries(7), 4);
        PeerRoutes refusing = new PeerRoutes();
        PeerRoutes replacing = new PeerRoutes();
        for (int call = 1; call < CALLS; call++) {
            due("refused call " + call, refusing.allow(0, 17, 0), -1);
            due("replacing call " + call, replacing.allow(0, 0, call % 8), 1);
        }
        due("512th call after refused ones", refusing.allow(0, 16, 0), 1);
        due("512th call after replacing ones", replacing.entries((CALLS - 1) % 8), 1);
        oneCallOverAndOver();
    }

    private static void oneCallOverAndOver() {
        PeerRoutes[] x = new PeerRoutes[8];
        for (int i = 0; i < x.length; i++) {
            x[i] = withEntries(1);
        }
        for (int call = 2; call < CALLS; call++) {
            due("deny as call " + call, x[0].deny(0, 16), -1);
            due("forget as call " + call, x[1].forget(7), 0);
            due("owner as call " + call, x[2].owner(call), 0);
            due("length as call " + call, x[3].length(call), 0);
            due("owned as call " + call, x[4].owned(0), 65536);
            due("next as call " + call, x[5].next(0, call), call);
            due("useless as call " + call, x[6].useless(), 0);
            due("entries as call " + call, x[7].entries(0), 1);
        }
        due("deny as 512th call", x[0].deny(0, 0), 0);
        due("forget as 512th call", x[1].forget(0), 1);
        due("owner as 512th call", x[2].owner(65535), 0);
        due("length as 512th call", x[3].length(65535), 0);
        due("owned as 512th call", x[4].owned(-1), 0);
        due("next as 512th call", x[5].next(0, 65535), 65535);
        due("useless as 512th call", x[6].useless(), 0);
        due("entries as 512th call", x[7].entries(1), 0);
    }

    private static void addressesAre0To65535() {
        tests("Terms", "ADDRESSES .. are the numbers 0 to 65535");
        PeerRoutes x = new PeerRoutes();
        due("owned(-1), how many there are", x.owned(-1), 65536);
        due("next(-1, least), the least", x.next(-1, LEAST), 0);
        due("next(-1, 65535), the greatest", x.next(-1, 65535), 65535);
        due("next(-1, 65536), none", x.next(-1, 65536), -1);
        due("allow(0, 16, 1)", x.allow(0, 16, 1), 1);
        due("allow(65535, 16, 2)", x.allow(65535, 16, 2), 2);
        due("owner(0)", x.owner(0), 1);
        due("owner(1)", x.owner(1), -1);
        due("owner(65534)", x.owner(65534), -1);
        due("owner(65535)", x.owner(65535), 2);
        due("owned(-1)", x.owned(-1), 65534);
        due("next(2, 0)", x.next(2, 0), 65535);
    }

    private static void lengthsAre0To16() {
        tests("Terms", "its LENGTH, 0 to 16");
        for (int length = 0; length <= 16; length++) {
            PeerRoutes x = new PeerRoutes();
            int size = 65536 >> length;
            int first = 0xA5A5 / size * size;
            int last = first + size - 1;
            due("allow, length " + length, x.allow(0xA5A5, length, 3), 1);
            due("owned, length " + length, x.owned(3), size);
            due("length of the first, length " + length, x.length(first), length);
            due("length of the last, length " + length, x.length(last), length);
            due("next from 0, length " + length, x.next(3, 0), first);
            due("next from the last, length " + length, x.next(3, last), last);
            due("next behind the last, length " + length, x.next(3, last + 1), -1);
            if (length > 0) {
                due("owner before the first, length " + length, x.owner(first - 1), -1);
                due("owner behind the last, length " + length, x.owner(last + 1), -1);
            }
            due("deny, length " + length, x.deny(0xA5A5, length), 0);
        }
        PeerRoutes x = new PeerRoutes();
        due("allow, length -1", x.allow(0, -1, 3), -1);
        due("allow, length 17", x.allow(0, 17, 3), -1);
    }

    private static void peersAre0To7() {
        tests("Terms", "PEERS are 0 to 7");
        PeerRoutes x = new PeerRoutes();
        for (int peer = 0; peer <= 7; peer++) {
            int address = peer << 13;
            due("allow, peer " + peer, x.allow(address, 3, peer), peer + 1);
            due("owner, peer " + peer, x.owner(address), peer);
            due("owned, peer " + peer, x.owned(peer), 8192);
            due("next, peer " + peer, x.next(peer, 0), address);
            due("entries, peer " + peer, x.entries(peer), 1);
        }
        for (int peer : new int[] {-1, 8}) {
            due("allow, peer " + peer, x.allow(0, 0, peer), -1);
            due("forget, peer " + peer, x.forget(peer), -1);
            due("entries, peer " + peer, x.entries(peer), -1);
        }
        for (int peer = 0; peer <= 7; peer++) {
            due("forget, peer " + peer, x.forget(peer), 1);
            due("entries once forgotten, peer " + peer, x.entries(peer), 0);
        }
    }

    private static void atMost32EntriesAreHeld() {
        tests("Terms", "At most 32 ENTRIES are held");
        PeerRoutes x = withEntries(31);
        due("allow of the 32nd", x.allow(0xFFFF, 16, 1), 32);
        due("allow of a 33rd", x.allow(0xFFFE, 16, 1), -1);
        int sum = 0;
        for (int peer = 0; peer <= 7; peer++) {
            sum += x.entries(peer);
        }
        due("all peers' entries", sum, 32);
        due("deny makes room for one", x.deny(0xFFFF, 16), 31);
        due("allow in its place", x.allow(0xFFFE, 16, 1), 32);
        due("allow of one more", x.allow(0xFFFF, 16, 1), -1);
        due("forget makes room for four", x.forget(0), 4);
        for (int i = 0; i < 4; i++) {
            due("allow into the room", x.allow(0xFFF0 + i, 16, 2), 29 + i);
        }
        due("allow beyond the room", x.allow(0xFFF4, 16, 2), -1);
    }

    private static void noPrefixIsHeldTwice() {
        tests("Terms", "no prefix is held twice");
        for (int length = 0; length <= 16; length++) {
            PeerRoutes x = new PeerRoutes();
            int lastCovered = 0x4000 | (65535 >> length);
            due("allow, length " + length, x.allow(0x4000, length, 2), 1);
            due("the same again, length " + length, x.allow(0x4000, length, 2), 1);
            due("by its last address, length " + length, x.allow(lastCovered, length, 2), 1);
            due("with higher bits, length " + length, x.allow(0x14000, length, 2), 1);
            due("with another peer, length " + length, x.allow(0x4000, length, 3), 1);
            due("entries(2), length " + length, x.entries(2), 0);
            due("entries(3), length " + length, x.entries(3), 1);
            due("deny, length " + length, x.deny(0x4000, length), 0);
            due("deny again, length " + length, x.deny(0x4000, length), -1);
            due("owner, length " + length, x.owner(0x4000), -1);
        }
    }

    private static void ownedByNobodyIfNoneCovers() {
        tests("Terms", "or by nobody if none does");
        PeerRoutes x = new PeerRoutes();
        due("owner in an empty object", x.owner(0x4000), -1);
        x.allow(0x4000, 2, 0);
        due("owner before the first covered", x.owner(0x3FFF), -1);
        due("owner of the first covered", x.owner(0x4000), 0);
        due("owner of the last covered", x.owner(0x7FFF), 0);
        due("owner behind the last covered", x.owner(0x8000), -1);
        x.allow(0, 0, 7);
        due("owner before, length 0 covers all", x.owner(0x3FFF), 7);
        due("owned(-1), length 0 covers all", x.owned(-1), 0);
        x.deny(0, 0);
        due("owner before, length 0 is gone", x.owner(0x3FFF), -1);
        x.forget(0);
        due("owner once its peer is forgotten", x.owner(0x4000), -1);
        due("owned(-1) once all are gone", x.owned(-1), 65536);
        due("owner, full and wholly covered", fullOfFives().owner(65535), 7);
        due("owned(-1), full and wholly covered", fullOfFives().owned(-1), 0);
    }

    private static void noEntry() {
        tests("Promise 1", "No entry.");
        PeerRoutes x = new PeerRoutes();
        for (int peer = 0; peer <= 7; peer++) {
            due("entries(" + peer + ")", x.entries(peer), 0);
            due("owned(" + peer + ")", x.owned(peer), 0);
            due("next(" + peer + ", 0)", x.next(peer, 0), -1);
            due("forget(" + peer + ")", x.forget(peer), 0);
        }
        due("owned(-1)", x.owned(-1), 65536);
        due("useless()", x.useless(), 0);
        for (int length = 0; length <= 16; length++) {
            due("deny(0, " + length + ")", x.deny(0, length), -1);
        }
        for (int address : ANY_ADDRESSES) {
            due("owner(" + address + ")", x.owner(address), -1);
            due("length(" + address + ")", x.length(address), -1);
        }
        due("first allow", x.allow(0, 0, 0), 1);
        due("owner in an object made after another's allow", new PeerRoutes().owner(0), -1);
        due("first allow of an object made later", new PeerRoutes().allow(1, 16, 0), 1);
    }

    private static void allowTakesTheLow16Bits() {
        tests("Promise 2", "the address & 65535");
        for (int address : ANY_ADDRESSES) {
            int low = Math.floorMod(address, 65536);
            for (int length = 0; length <= 16; length++) {
                PeerRoutes x = new PeerRoutes();
                int size = 65536 >> length;
                String call = "allow(" + address + ", " + length + ", 4)";
                due(call, x.allow(address, length, 4), 1);
                due("owner after " + call, x.owner(low), 4);
                due("next after " + call, x.next(4, 0), low / size * size);
                due("owned after " + call, x.owned(4), size);
                due("allow of the same after " + call, x.allow(low, length, 5), 1);
            }
        }
    }

    private static void allowReplacesIfHeld() {
        tests("Promise 2", "in place of the one that it had, if it is held");
        for (int entry = 0; entry < 32; entry++) {
            PeerRoutes x = withEntries(32);
            int address = addressOf(entry);
            int length = lengthOf(entry);
            int before = entry % 8;
            int after = (entry + 1) % 8;
            due("allow, full, same peer", x.allow(address, length, before), 32);
            due("entries as before", x.entries(before), 4);
            due("allow, full, other peer", x.allow(address, length, after), 32);
            due("entries of the peer that it had", x.entries(before), 3);
            due("entries of the peer that it gets", x.entries(after), 5);
            due("deny of it", x.deny(address, length), 31);
            due("entries of the peer that it got", x.entries(after), 4);
            due("deny of it again", x.deny(address, length), -1);
            due("allow, not held now", x.allow(address, length, before), 32);
            asIfNotAsked("replaced, gone and back", x, 32);
        }
        PeerRoutes x = withEntries(1);
        due("allow, one entry, other peer", x.allow(0, 0, 7), 1);
        due("owner, one entry, other peer", x.owner(0), 7);
    }

    private static void allowRefusesALength() {
        tests("Promise 2", "-1, and changes nothing, if length is not from 0 to 16");
        due("allow, length 0", withEntries(0).allow(0, 0, 0), 1);
        due("allow, length 16", withEntries(0).allow(0, 16, 0), 1);
        for (int size : SIZES) {
            for (int length : WRONG_LENGTHS) {
                allowIsRefused(size, 0x1234, length, 5);
                allowIsRefused(size, LEAST, length, 0);
                allowIsRefused(size, GREATEST, length, -1);
            }
        }
    }

    private static void allowRefusesAPeer() {
        tests("Promise 2", "-1, and changes nothing, if .. peer is not from 0 to 7");
        due("allow, peer 0", withEntries(0).allow(0, 0, 0), 1);
        due("allow, peer 7", withEntries(0).allow(0, 0, 7), 1);
        for (int size : SIZES) {
            for (int peer : WRONG_PEERS) {
                allowIsRefused(size, 0x1234, 0, peer);
                allowIsRefused(size, 0x1234, 16, peer);
                allowIsRefused(size, 0xEDCB, 8, peer);
            }
        }
    }

    private static void allowRefusesThe33rd() {
        tests("Promise 2", "-1, and changes nothing, if .. the prefix is not held and 32 are");
        for (int length = 1; length <= 16; length++) {
            due("allow, not held and 31 are", withEntries(31).allow(0xEDCB, length, 1), 32);
            allowIsRefused(32, 0xEDCB, length, 1);
            allowIsRefused(32, LEAST + 0xEDCB, length, 1);
            due("allow, held and 32 are", withEntries(32).allow(0x1234, length, 1), 32);
        }
        PeerRoutes x = fullOfFives();
        for (int length = 0; length <= 16; length++) {
            int want = length == 5 ? 32 : -1;
            due("allow among fives, length " + length, x.allow(0, length, 0), want);
            due("allow among fives, length " + length, x.allow(65535, length, 7), want);
        }
        due("length(0) as before", x.length(0), 5);
        due("length(65535) as before", x.length(65535), 5);
        due("owned(0) as before", x.owned(0), 8192);
        due("owned(7) as before", x.owned(7), 8192);
        due("useless() as before", x.useless(), 0);
    }

    private static void denyTakesTheLow16Bits() {
        tests("Promise 3", "the address & 65535");
        for (int address : ANY_ADDRESSES) {
            int low = Math.floorMod(address, 65536);
            for (int length = 0; length <= 16; length++) {
                PeerRoutes x = new PeerRoutes();
                String call = "deny(" + address + ", " + length + ")";
                x.allow(low, length, 4);
                due(call, x.deny(address, length), 0);
                due("owned after " + call, x.owned(4), 0);
            }
        }
    }

    private static void denyRefusesALength() {
        tests("Promise 3", "-1, and changes nothing, if length is not from 0 to 16");
        due("deny, length 0", withEntries(17).deny(0x1234, 0), 16);
        due("deny, length 16", withEntries(17).deny(0x1234, 16), 16);
        for (int size : SIZES) {
            for (int length : WRONG_LENGTHS) {
                denyIsRefused(size, 0x1234, length);
                denyIsRefused(size, 0, length);
                denyIsRefused(size, LEAST, length);
                denyIsRefused(size, GREATEST, length);
            }
        }
    }

    private static void denyRefusesWhatIsNotHeld() {
        tests("Promise 3", "-1, and changes nothing, if .. it is not held");
        for (int length = 0; length <= 16; length++) {
            denyIsRefused(0, 0x1234, length);
            denyIsRefused(length, 0x1234, length);
            due("deny, just held", withEntries(length + 1).deny(0x1234, length), length);
            if (length > 0) {
                // The prefix that differs from a held one in its last bit alone.
                denyIsRefused(32, 0x1234 ^ (65536 >> length), length);
            }
        }
        for (int entry = 0; entry < 32; entry++) {
            PeerRoutes x = withEntries(32);
            due("deny of one of 32", x.deny(addressOf(entry), lengthOf(entry)), 31);
            due("deny of the same again", x.deny(addressOf(entry), lengthOf(entry)), -1);
            due("allow of the same", x.allow(addressOf(entry), lengthOf(entry), entry % 8), 32);
            asIfNotAsked("denied twice and back", x, 32);
        }
    }

    private static void forgetRefusesAPeer() {
        tests("Promise 4", "-1 if peer is not from 0 to 7");
        for (int size : SIZES) {
            for (int peer : WRONG_PEERS) {
                PeerRoutes x = withEntries(size);
                due("forget(" + peer + ")", x.forget(peer), -1);
                asIfNotAsked("forget(" + peer + ")", x, size);
            }
        }
        for (int peer = 0; peer <= 7; peer++) {
            due("forget(" + peer + "), empty", new PeerRoutes().forget(peer), 0);
            due("forget(" + peer + "), full", withEntries(32).forget(peer), 4);
            PeerRoutes x = fullOfFives();
            for (int entry = 0; entry < 32; entry++) {
                x.allow(entry << 11, 5, peer);
            }
            due("forget(" + peer + "), all 32", x.forget(peer), 32);
            due("forget(" + peer + "), none left", x.forget(peer), 0);
            due("owned(-1), none left", x.owned(-1), 65536);
            due("allow, none left", x.allow(0, 5, peer), 1);
        }
    }

    private static void ownerTakesTheLow16Bits() {
        tests("Promise 5", "the address & 65535");
        for (int address : ANY_ADDRESSES) {
            int low = Math.floorMod(address, 65536);
            PeerRoutes x = new PeerRoutes();
            x.allow(low, 16, 6);
            due("owner(" + address + ")", x.owner(address), 6);
            due("owner, its last bit another", x.owner(address ^ 1), -1);
            x.allow(0, 0, 1);
            due("owner(" + address + "), all covered", x.owner(address), 6);
            due("owner, its first bit another", x.owner(address ^ 0x8000), 1);
            due("owner, full", fullOfFives().owner(address), (low >> 11) % 8);
        }
    }

    private static void ownerIsNobody() {
        tests("Promise 5", "-1 if nobody does");
        for (int address : ANY_ADDRESSES) {
            due("owner(" + address + "), empty", new PeerRoutes().owner(address), -1);
        }
        PeerRoutes x = fullOfFives();
        due("deny of the last five", x.deny(65535, 5), 31);
        due("allow of its last address", x.allow(65535, 16, 0), 32);
        due("owner before the gap, full", x.owner(0xF7FF), 6);
        due("owner of the first in the gap, full", x.owner(0xF800), -1);
        due("owner of the last in the gap, full", x.owner(65534), -1);
        due("owner behind the gap, full", x.owner(65535), 0);
        due("owner, peer 0 and not nobody", withEntries(1).owner(0), 0);
    }

    private static void lengthTakesTheLow16Bits() {
        tests("Promise 6", "the address & 65535");
        for (int address : ANY_ADDRESSES) {
            int low = Math.floorMod(address, 65536);
            PeerRoutes x = new PeerRoutes();
            x.allow(low, 16, 6);
            due("length(" + address + ")", x.length(address), 16);
            due("length, its last bit another", x.length(address ^ 1), -1);
            x.allow(0, 0, 1);
            due("length(" + address + "), all covered", x.length(address), 16);
            due("length, its first bit another", x.length(address ^ 0x8000), 0);
            due("length, full", fullOfFives().length(address), 5);
        }
    }

    private static void lengthOfNobody() {
        tests("Promise 6", "-1 if nobody does");
        for (int address : ANY_ADDRESSES) {
            due("length(" + address + "), empty", new PeerRoutes().length(address), -1);
            due("length(" + address + "), of length 0", withEntries(1).length(address), 0);
        }
        PeerRoutes x = withEntries(32);
        due("length just outside of the eights, full", x.length(0xA000), 0);
        due("deny of length 0", x.deny(0, 0), 31);
        due("length before the eights", x.length(0x90FF), -1);
        due("length of the first of the eights", x.length(0x9100), 8);
        due("length of the last of the eights", x.length(0x9FFF), 8);
        due("length behind the eights", x.length(0xA000), -1);
    }

    private static void ownedByNobody() {
        tests("Promise 7", "for peer -1, how many nobody owns");
        PeerRoutes x = new PeerRoutes();
        due("owned(-1), empty", x.owned(-1), 65536);
        x.allow(65535, 16, 0);
        due("owned(-1), one owned", x.owned(-1), 65535);
        x.allow(65535, 15, 1);
        due("owned(-1), two owned", x.owned(-1), 65534);
        for (int length = 1; length <= 16; length++) {
            x.allow(65536 >> length, length, 2);
        }
        due("owned(-1), all owned but 0", x.owned(-1), 1);
        x.allow(0, 16, 3);
        due("owned(-1), all owned", x.owned(-1), 0);
        due("owned(-1), one entry of length 0", withEntries(1).owned(-1), 0);
        due("owned(0), one entry of length 0", withEntries(1).owned(0), 65536);
        due("owned(-1), full, all covered", fullOfFives().owned(-1), 0);
        due("owned(-1), full", after511Calls().owned(-1), 65504);
    }

    private static void ownedRefusesAPeer() {
        tests("Promise 7", "-2 if peer is not from -1 to 7");
        for (int peer : WRONG_OWNERS) {
            due("owned(" + peer + "), empty", new PeerRoutes().owned(peer), -2);
            due("owned(" + peer + "), full", fullOfFives().owned(peer), -2);
        }
        for (int peer = 0; peer <= 7; peer++) {
            due("owned(" + peer + "), empty", new PeerRoutes().owned(peer), 0);
            due("owned(" + peer + "), full", fullOfFives().owned(peer), 8192);
        }
        due("owned(-1), empty", new PeerRoutes().owned(-1), 65536);
        due("owned(-1), full", fullOfFives().owned(-1), 0);
    }

    private static void nextIsAtLeastFrom() {
        tests("Promise 8", "The least address at least from that the peer owns");
        for (int peer = 0; peer <= 7; peer++) {
            PeerRoutes x = new PeerRoutes();
            x.allow(0, 16, peer);
            x.allow(0x4000, 8, peer);
            x.allow(65535, 16, peer);
            due("next from the least int", x.next(peer, LEAST), 0);
            due("next from -65536", x.next(peer, -65536), 0);
            due("next from -1", x.next(peer, -1), 0);
            due("next from 0", x.next(peer, 0), 0);
            due("next from 1", x.next(peer, 1), 0x4000);
            due("next from before", x.next(peer, 0x3FFF), 0x4000);
            due("next from the first", x.next(peer, 0x4000), 0x4000);
            due("next from the second", x.next(peer, 0x4001), 0x4001);
            due("next from the last", x.next(peer, 0x40FF), 0x40FF);
            due("next from behind", x.next(peer, 0x4100), 65535);
            due("next from 65535", x.next(peer, 65535), 65535);
            int first = peer << 11;
            due("next(" + peer + ", least), full", fullOfFives().next(peer, LEAST), first);
            due("next from the last, full", fullOfFives().next(peer, first + 2047), first + 2047);
            due("next from behind, full", fullOfFives().next(peer, first + 2048), first + 16384);
        }
    }

    private static void nextThatNobodyOwns() {
        tests("Promise 8", "peer -1: that nobody owns");
        PeerRoutes x = new PeerRoutes();
        due("next(-1, least), empty", x.next(-1, LEAST), 0);
        due("next(-1, 0), empty", x.next(-1, 0), 0);
        due("next(-1, 40000), empty", x.next(-1, 40000), 40000);
        due("next(-1, 65535), empty", x.next(-1, 65535), 65535);
        x.allow(0, 1, 0);
        due("next(-1, least), lower half owned", x.next(-1, LEAST), 32768);
        due("next(-1, 32767), lower half owned", x.next(-1, 32767), 32768);
        due("next(-1, 32769), lower half owned", x.next(-1, 32769), 32769);
        x.allow(0x8000, 2, 1);
        due("next(-1, 0), three quarters owned", x.next(-1, 0), 0xC000);
        x.allow(0xC000, 3, 2);
        x.allow(0xE000, 4, 3);
        x.allow(0xFFFF, 16, 4);
        due("next(-1, 0), gap before 65535", x.next(-1, 0), 0xF000);
        due("next(-1, 65534), gap before 65535", x.next(-1, 65534), 65534);
    }

    private static void nextFindsNone() {
        tests("Promise 8", "-1 if there is none");
        int[] behindAll = {65536, 65537, 131072, GREATEST - 1, GREATEST};
        for (int from : behindAll) {
            for (int peer = -1; peer <= 7; peer++) {
                String call = "next(" + peer + ", " + from + ")";
                due(call + ", empty", new PeerRoutes().next(peer, from), -1);
                due(call + ", full", fullOfFives().next(peer, from), -1);
                due(call + ", length 0", withEntries(1).next(peer, from), -1);
            }
        }
        for (int from : new int[] {LEAST, -1, 0, 65535}) {
            due("next(0, " + from + "), empty", new PeerRoutes().next(0, from), -1);
            due("next(7, " + from + "), empty", new PeerRoutes().next(7, from), -1);
            due("next(7, " + from + "), another's", withEntries(1).next(7, from), -1);
            due("next(-1, " + from + "), length 0", withEntries(1).next(-1, from), -1);
            due("next(-1, " + from + "), full", fullOfFives().next(-1, from), -1);
        }
        PeerRoutes x = new PeerRoutes();
        x.allow(0, 1, 5);
        due("next at the last owned", x.next(5, 32767), 32767);
        due("next behind it does not begin again at 0", x.next(5, 32768), -1);
        x.allow(65535, 16, 6);
        due("next(-1, 65535) does not begin again at 0", x.next(-1, 65535), -1);
    }

    private static void nextRefusesAPeer() {
        tests("Promise 8", "-2 if peer is not from -1 to 7");
        for (int peer : WRONG_OWNERS) {
            due("next(" + peer + ", 0), empty", new PeerRoutes().next(peer, 0), -2);
            due("next(" + peer + ", 0), full", fullOfFives().next(peer, 0), -2);
        }
        due("next(-1, 0), empty", new PeerRoutes().next(-1, 0), 0);
        for (int peer = 0; peer <= 7; peer++) {
            due("next(" + peer + ", 0), full", fullOfFives().next(peer, 0), peer << 11);
        }
    }

    private static void uselessIsForEachAlone() {
        tests("Promise 9", "leaving out that one alone would change no address's owner");
        due("useless, empty", new PeerRoutes().useless(), 0);
        due("useless, one entry", withEntries(1).useless(), 0);
        due("useless, full, none", fullOfFives().useless(), 0);
        due("useless, full, of other peers' around", withEntries(32).useless(), 1);
        uselessAllOfOnePeer();
        uselessUpToTheLastAddress();
        uselessNextToNobody();
    }

    // Without any one of them the others give the same owners, though without
    // all of them nothing would be owned.
    private static void uselessAllOfOnePeer() {
        PeerRoutes x = new PeerRoutes();
        for (int length = 0; length <= 4; length++) {
            for (int i = 0; i < 1 << length; i++) {
                x.allow(i << (16 - length), length, 3);
            }
        }
        due("useless, all 31", x.useless(), 31);
        due("allow of the 32nd", x.allow(65535, 16, 3), 32);
        due("useless, all 32", x.useless(), 32);
        due("useless again, nothing left out", x.useless(), 32);
        due("owned as before", x.owned(3), 65536);
        due("entries as before", x.entries(3), 32);
        due("another peer for the 32nd", x.allow(65535, 16, 4), 32);
        due("useless, all but the 32nd", x.useless(), 31);
    }

    // Length 0 keeps one address alone, and then none.
    private static void uselessUpToTheLastAddress() {
        PeerRoutes x = new PeerRoutes();
        x.allow(0, 0, 1);
        for (int length = 1; length <= 16; length++) {
            x.allow(65536 >> length, length, 2);
            due("useless, covered but for " + (65536 >> length), x.useless(), 0);
        }
        due("owned(1), one address", x.owned(1), 1);
        x.allow(0, 16, 3);
        due("useless, wholly covered", x.useless(), 1);
        x.allow(0, 16, 1);
        due("useless, wholly covered, one by its own peer", x.useless(), 2);
        x.deny(0, 0);
        due("useless, none around", x.useless(), 0);
    }

    private static void uselessNextToNobody() {
        PeerRoutes x = new PeerRoutes();
        x.allow(65534, 15, 0);
        x.allow(65535, 16, 0);
        due("useless, the inner of two", x.useless(), 1);
        x.allow(65534, 16, 0);
        due("useless, all of three", x.useless(), 3);
        x.deny(65534, 15);
        due("useless, two side by side", x.useless(), 0);
    }

    private static void entriesRefusesAPeer() {
        tests("Promise 10", "-1 if peer is not from 0 to 7");
        for (int peer : WRONG_PEERS) {
            due("entries(" + peer + "), empty", new PeerRoutes().entries(peer), -1);
            due("entries(" + peer + "), full", fullOfFives().entries(peer), -1);
        }
        for (int peer = 0; peer <= 7; peer++) {
            due("entries(" + peer + "), empty", new PeerRoutes().entries(peer), 0);
            due("entries(" + peer + "), full", fullOfFives().entries(peer), 4);
            PeerRoutes x = fullOfFives();
            for (int entry = 0; entry < 32; entry++) {
                x.allow(entry << 11, 5, peer);
            }
            due("entries(" + peer + "), all 32", x.entries(peer), 32);
        }
    }

    private static void nextTestsThePeerFirst() {
        tests("Promise 11", "next: -2 is tested before -1");
        for (int peer : WRONG_OWNERS) {
            for (int from : new int[] {LEAST, -1, 0, 65535, 65536, GREATEST}) {
                String call = "next(" + peer + ", " + from + ")";
                due(call + ", empty", new PeerRoutes().next(peer, from), -2);
                due(call + ", full", fullOfFives().next(peer, from), -2);
            }
        }
        due("next(7, 65536)", new PeerRoutes().next(7, 65536), -1);
        due("next(-1, 65536)", new PeerRoutes().next(-1, 65536), -1);
    }
}
