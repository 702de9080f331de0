import java.util.ArrayList;
import java.util.List;

/** Promises 1, 2 and 18 at their edges, the end of an object's 512 calls, and what refused calls leave as it was. */
public final class DeskEdgesTest {
    private static final int NONE = HeraldDesk.NONE;
    private static final int MIN = Integer.MIN_VALUE;
    private static final int MAX = Integer.MAX_VALUE;
    private static final String TEXT = "or, a fess gules charged with four roses argent seeded vert, within a bordure vair";

    /** A call that a desk refuses, and what it answers then. */
    private interface Refused {
        int on(HeraldDesk desk);
    }

    public static void main(String[] args) {
        constant();
        newWithoutShields();
        newWithoutPersons();
        newWithoutBodies();
        newTapeAndWriting();
        twentyBytes();
        highestFirst();
        moreThanTapeHolds();
        behindTheTape();
        counts();
        countsOfOthers();
        ownMemory();
        lastCalls();
        refusedChangesNothing();
        refusedTextsChangeTheTapeAlone();
        Kit.end();
    }

    private static void constant() {
        Kit.promise(1, "`NONE = -1`: There is none.");
        Kit.due("NONE", HeraldDesk.NONE, -1);
    }

    private static void newWithoutShields() {
        Kit.promise(1, "No SHIELDS");
        HeraldDesk desk = new HeraldDesk();
        Kit.due("count(0)", desk.count(0), 0);
        Kit.due("write(0)", desk.write(0), NONE);
        Kit.due("look(0, 1)", desk.look(0, 1), NONE);
        Kit.due("judge(0, 3, 0)", desk.judge(0, 3, 0), 0);
        Kit.due("part(0, 0, 3, 0)", desk.part(0, 0, 3, 0), 0);
        Kit.due("point(0, 30, 30)", desk.point(0, 30, 30), NONE);
        Kit.due("points(0, 0)", desk.points(0, 0), NONE);
        Kit.due("differ(0, 0)", desk.differ(0, 0), NONE);
        Kit.due("person of shield 0", desk.person(true, NONE, NONE, 0), NONE);
    }

    private static void newWithoutPersons() {
        Kit.promise(1, "no PERSONS");
        HeraldDesk desk = new HeraldDesk();
        Kit.due("count(1)", desk.count(1), 0);
        Kit.due("family(0, 0)", desk.family(0, 0), NONE);
        Kit.due("family(0, 2)", desk.family(0, 2), NONE);
        Kit.due("marry(0, 1)", desk.marry(0, 1), false);
        Kit.due("person of 0 and 1", desk.person(true, 0, 1, 0), NONE);
    }

    private static void newWithoutBodies() {
        Kit.promise(1, "OFFICES without BODIES of their own");
        HeraldDesk desk = new HeraldDesk();
        for (int office = 0; office < 4; office++) {
            Kit.due("BODIES of " + office, desk.count(3 + office), 0);
            for (int rule = 0; rule < 4; rule++) {
                Kit.due("chosen for bordures", desk.chosen(15, rule, office), new int[] {0, NONE, 15, 1}[rule]);
                Kit.due("chosen for lions", desk.chosen(16, rule, office), new int[] {0, 2, 0, 0}[rule]);
            }
        }
    }

    private static void newTapeAndWriting() {
        Kit.promise(6, "NONE if there is none.");
        HeraldDesk desk = new HeraldDesk();
        Kit.due("octet(0) of a new object", desk.octet(0), NONE);
        Kit.promise(11, "How many BODIES were begun");
        Kit.due("ran of a new object", desk.ran(), 0);
        Kit.promise(2, "how many it has");
        Kit.due("the tape of a new object", desk.count(2), 0);
    }

    private static void twentyBytes() {
        Kit.promise(2, "Twenty bytes come behind the tape");
        HeraldDesk desk = new HeraldDesk();
        Kit.due("feed", desk.feed(0, 0, 0, 0, 0), 20);
        Kit.due("feed", desk.feed(-1, -1, -1, -1, -1), 40);
        Kit.due("feed", desk.feed(MIN, MAX, 1, MIN, MAX), 60);
        Kit.due("count(2)", desk.count(2), 60);
    }

    /** Each of the twenty places in turn has the one byte that is refused, so that its place comes back. */
    private static void highestFirst() {
        Kit.promise(2, "the highest of each int first");
        for (int place = 0; place < 20; place++) {
            for (int other = 128; other < 256; other += 127) {
                int[] five = {0x20202020, 0x20202020, 0x20202020, 0x20202020, 0x20202020};
                int shift = 24 - 8 * (place % 4);
                five[place / 4] = five[place / 4] & ~(255 << shift) | other << shift;
                HeraldDesk desk = new HeraldDesk();
                desk.feed(five[0], five[1], five[2], five[3], five[4]);
                Kit.due("a byte " + other + " at " + place, desk.read(20), -2 - place);
            }
        }
        HeraldDesk desk = new HeraldDesk();
        desk.feed(0x76657274, 0x2c612066, 0x65737320, 0x6f722020, 0x20202020);
        Kit.due("read(20)", desk.read(20), 0);
        Kit.due("written", Kit.written(desk, 0), "vert, a fess or");
    }

    private static void moreThanTapeHolds() {
        Kit.promise(2, "NONE if that would be more than 240");
        HeraldDesk desk = new HeraldDesk();
        for (int i = 1; i < 12; i++) {
            desk.feed(0x20202020, 0x20202020, 0x20202020, 0x20202020, 0x20202020);
        }
        Kit.due("220 bytes", desk.count(2), 220);
        Kit.due("the 12th feed", desk.feed(0x20202020, 0x20202020, 0x20202020, 0x20202020, 0x20206f72), 240);
        Kit.due("the 13th", desk.feed(0, 0, 0, 0, 0), NONE);
        Kit.due("the 14th", desk.feed(-1, -1, -1, -1, -1), NONE);
        Kit.due("count(2)", desk.count(2), 240);
        Kit.due("what is on the tape", desk.read(240), 0);
        Kit.due("an empty tape again", desk.feed(0, 0, 0, 0, 0), 20);
    }

    private static void behindTheTape() {
        Kit.promise(2, "come behind the tape");
        HeraldDesk desk = new HeraldDesk();
        Kit.feed(desk, "quarterly argent and");
        Kit.feed(desk, " sable");
        Kit.due("read(26)", desk.read(26), 0);
        Kit.feed(desk, "vair");
        Kit.due("from the start again", desk.read(4), 1);
        Kit.due("written", Kit.written(desk, 1), "vair");
    }

    private static void counts() {
        Kit.promise(18, "0 SHIELDS, 1 PERSONS, 2 bytes of the tape, 3 + o BODIES of OFFICE o");
        HeraldDesk desk = Kit.deskWith(5);
        for (int i = 0; i < 7; i++) {
            desk.person(true, NONE, NONE, 0);
        }
        for (int office = 0; office < 4; office++) {
            Kit.pack(desk, office, "rule 0 for lion:1; rule 1 for lion:1; rule 2 for lion:1; rule 3 for lion:1; ".substring(0, 19 * (office + 1)));
        }
        desk.feed(0, 0, 0, 0, 0);
        int[] want = {5, 7, 20, 1, 2, 3, 4};
        for (int what = 0; what < 7; what++) {
            Kit.due("count(" + what + ")", desk.count(what), want[what]);
        }
    }

    private static void countsOfOthers() {
        Kit.promise(18, "NONE for others.");
        HeraldDesk desk = Kit.deskWith(1);
        for (int what : new int[] {-1, 7, 8, -2, 3 + 32, MAX, MIN}) {
            Kit.due("count(" + what + ")", desk.count(what), NONE);
        }
    }

    private static void ownMemory() {
        Kit.promise(1, "All memory is the desk's own.");
        HeraldDesk one = new HeraldDesk();
        HeraldDesk other = new HeraldDesk();
        Kit.pack(one, 2, "rule 0 for part: 5;");
        Kit.read(one, TEXT);
        one.write(0);
        one.person(true, NONE, NONE, 0);
        one.judge(0, 0, 2);
        one.feed(0, 0, 0, 0, 0);
        Kit.due("the other", snapshot(other), snapshot(new HeraldDesk()));
        Kit.due("the other's first shield", Kit.read(other, "gules"), 0);
        Kit.due("the other's writing", Kit.written(other, 0), "gules");
        Kit.due("the first one's writing", one.octet(0), (int) 'o');
    }

    /** A desk that is full in everything; its last calls up to the 512th answer as the first ones do. */
    private static void lastCalls() {
        Kit.promise(1, "An object is used for at most 512 calls after it has been made");
        HeraldDesk desk = Kit.deskWith(60);
        int calls = 60 * 3;
        for (int p = 0; p < 100; p++) {
            Kit.due("person", desk.person(p % 2 == 0, p < 4 ? NONE : p - p % 2 - 4, p < 4 ? NONE : p - p % 2 - 3, p), p);
            calls++;
            if (p % 2 == 1) {
                Kit.due("marry", desk.marry(p - 1, p), true);
                calls++;
            }
        }
        while (calls < 512 - 9) {
            Kit.due("family", desk.family(98, 3), 24);
            calls++;
        }
        Kit.due("feed", desk.feed(0x6f722020, 0, 0, 0, 0), 20);
        Kit.due("read", desk.read(2), NONE);
        Kit.due("write", desk.write(59), "quarterly ermine and azure".length());
        Kit.due("octet", desk.octet(25), (int) 'e');
        Kit.due("judge", desk.judge(59, 3, 3), 0);
        Kit.due("chosen", desk.chosen(30, 1, 3), 2);
        Kit.due("points", desk.points(59, 8), 0);
        Kit.due("person", desk.person(true, 0, 1, 0), NONE);
        Kit.due("the 512th", desk.count(1), 100);
    }

    private static HeraldDesk busyDesk() {
        HeraldDesk desk = new HeraldDesk();
        Kit.read(desk, TEXT);
        Kit.read(desk, "per pale argent and azure, two lions rampant gules armed or");
        desk.person(true, NONE, NONE, 0);
        desk.person(false, NONE, NONE, 1);
        desk.person(true, NONE, NONE, 1);
        desk.marry(0, 1);
        desk.person(false, 0, 1, NONE);
        desk.marry(2, 3);
        desk.person(true, 2, 3, NONE);
        Kit.pack(desk, 1, "rule 0 for lion: next + 3; rule 3 for part: 7;");
        Kit.pack(desk, 3, "rule 1 for ordinary: sort;");
        desk.write(0);
        desk.judge(0, 3, 1);
        Kit.feed(desk, "vert, a fess or, gold and more of it, the whole tape being full of such things as nobody has ever told ".repeat(3).substring(0, 240));
        return desk;
    }

    /** All that can be asked of a small desk in fewer than 512 calls. */
    private static String snapshot(HeraldDesk desk) {
        List<Integer> all = new ArrayList<>();
        all.add(desk.ran());
        for (int what = 0; what < 7; what++) {
            all.add(desk.count(what));
        }
        for (int i = 0; i < 90; i++) {
            all.add(desk.octet(i));
        }
        for (int k = 0; k < 3; k++) {
            for (int what = 0; what < 34; what++) {
                all.add(desk.look(k, what));
            }
        }
        for (int office = 0; office < 4; office++) {
            for (int rule = 0; rule < 4; rule++) {
                for (int kind : new int[] {0, 1, 2, 9, 15, 16}) {
                    all.add(desk.chosen(kind, rule, office));
                }
                all.add(desk.judge(0, rule, office));
                all.add(desk.judge(1, rule, office));
            }
        }
        for (int p = 0; p < 6; p++) {
            for (int what : new int[] {0, 1, 2, 3, 4, 5, 100, 101, 102}) {
                all.add(desk.family(p, what));
            }
        }
        return all.toString();
    }

    private static void refusedChangesNothing() {
        Kit.promise(3, "What is refused changes nothing but the tape, where it is told.");
        String before = snapshot(busyDesk());
        unchanged(before, NONE, "a feed too many", desk -> desk.feed(0x6f722020, 0, 0, 0, 0));
        for (int n : new int[] {-1, 241, MIN, MAX}) {
            unchanged(before, NONE, "read(" + n + ")", desk -> desk.read(n));
            unchanged(before, NONE, "pack(1, " + n + ")", desk -> desk.pack(1, n));
        }
        for (int none : new int[] {-1, 4, MIN, MAX}) {
            unchanged(before, NONE, "pack(" + none + ", 0)", desk -> desk.pack(none, 0));
            unchanged(before, NONE, "write(" + none + ")", desk -> desk.write(none));
            unchanged(before, NONE, "person of shield " + none, desk -> desk.person(true, NONE, NONE, none));
            unchanged(before, NONE, "a child of 0 and " + none, desk -> desk.person(true, 0, none, 0));
            unchanged(before, NONE, "a child of " + none + " and 1", desk -> desk.person(true, none, 1, 0));
            unchanged(before, 0, "marry(0, " + none + ")", desk -> desk.marry(0, none) ? 1 : 0);
            unchanged(before, 0, "marry(" + none + ", 1)", desk -> desk.marry(none, 1) ? 1 : 0);
        }
        unchanged(before, 0, "marry those who are", desk -> desk.marry(0, 3) ? 1 : 0);
        unchanged(before, 0, "marry a married woman", desk -> desk.marry(4, 3) ? 1 : 0);
        unchanged(before, 0, "marry two men", desk -> desk.marry(4, 4) ? 1 : 0);
        unchanged(before, NONE, "a child of no couple", desk -> desk.person(false, 2, 1, 0));
    }

    private static void unchanged(String before, int answer, String call, Refused refused) {
        HeraldDesk desk = busyDesk();
        Kit.due(call, refused.on(desk), answer);
        Kit.due("all else behind " + call, snapshot(desk), before);
        Kit.due("the tape behind " + call, desk.read(15), 2);
    }

    private static void refusedTextsChangeTheTapeAlone() {
        Kit.promise(4, "What is refused changes nothing but the tape, where it is told.");
        HeraldDesk quiet = busyDesk();
        quiet.read(0);
        String before = snapshot(quiet);
        emptied(before, -2, "read(0)", desk -> desk.read(0));
        emptied(before, -2 - 17, "read(240)", desk -> desk.read(240));
        emptied(before, -2 - 16, "read(16)", desk -> desk.read(16));
        for (int office = 0; office < 4; office++) {
            int whose = office;
            emptied(before, -2, "pack(" + office + ", 240)", desk -> desk.pack(whose, 240));
        }
        HeraldDesk desk = busyDesk();
        desk.read(0);
        Kit.due("a pack that is refused at its end", Kit.pack(desk, 1, "rule 1 for lion: 5; rule 0 for part: 9"), -2 - 38);
        Kit.due("all else behind it", snapshot(desk), before);
    }

    private static void emptied(String before, int answer, String call, Refused refused) {
        HeraldDesk desk = busyDesk();
        Kit.due(call, refused.on(desk), answer);
        Kit.due("all else behind " + call, snapshot(desk), before);
    }
}
