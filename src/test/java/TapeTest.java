/** Promises 1, 2 and 18, and what reading does to the tape. */
public final class TapeTest {
    public static void main(String[] args) {
        newObject();
        feeding();
        emptying();
        counting();
        Kit.end();
    }

    private static void newObject() {
        HeraldDesk desk = new HeraldDesk();
        for (int what = 0; what < 7; what++) {
            Kit.due("count(" + what + ")", desk.count(what), 0);
        }
        Kit.due("ran", desk.ran(), 0);
        Kit.due("octet", desk.octet(0), -1);
        Kit.due("write", desk.write(0), -1);
        Kit.due("look", desk.look(0, 0), -1);
        Kit.due("family", desk.family(0, 0), -1);
        Kit.due("common body of rule 0", desk.chosen(16, 0, 0), 0);
        Kit.due("NONE", HeraldDesk.NONE, -1);
    }

    private static void feeding() {
        HeraldDesk desk = new HeraldDesk();
        for (int i = 1; i <= 12; i++) {
            Kit.due("feed " + i, desk.feed(-1, 0, i, Integer.MIN_VALUE, 7), 20 * i);
        }
        Kit.due("feed 13", desk.feed(0, 0, 0, 0, 0), -1);
        Kit.due("the tape after it", desk.count(2), 240);
        HeraldDesk other = new HeraldDesk();
        other.feed(0x6f722020, 0x20202020, 0x20202020, 0x20202020, 0x202020ff);
        Kit.due("the last byte of 20 is 255", other.read(20), -2 - 19);
        other.feed(0x6f722020, 0x20202020, 0x20202020, 0x20202020, 0x202020ff);
        Kit.due("all but the last", other.read(19), 0);
    }

    private static void emptying() {
        HeraldDesk desk = new HeraldDesk();
        Kit.feed(desk, "or");
        Kit.due("read(21) of 20", desk.read(21), -1);
        Kit.due("read(-1)", desk.read(-1), -1);
        Kit.due("read(min)", desk.read(Integer.MIN_VALUE), -1);
        Kit.due("pack(0, 21)", desk.pack(0, 21), -1);
        Kit.due("pack(0, -1)", desk.pack(0, -1), -1);
        Kit.due("pack(4, 0)", desk.pack(4, 0), -1);
        Kit.due("pack(-1, 0)", desk.pack(-1, 0), -1);
        Kit.due("the tape stands", desk.count(2), 20);
        Kit.due("read(2)", desk.read(2), 0);
        Kit.due("the tape is empty", desk.count(2), 0);
        Kit.due("read(1)", desk.read(1), -1);
        Kit.due("read(0)", desk.read(0), -2);
        Kit.feed(desk, "nothing");
        Kit.due("a refused text", desk.read(7), -2);
        Kit.due("empties the tape", desk.count(2), 0);
        Kit.feed(desk, "nothing");
        Kit.due("a refused pack", desk.pack(1, 7), -2);
        Kit.due("empties the tape", desk.count(2), 0);
        Kit.feed(desk, "rule 0 for lion: 1; and what is left behind is gone with it");
        Kit.due("a pack", desk.pack(1, 19), 1);
        Kit.due("empties the tape", desk.count(2), 0);
    }

    private static void counting() {
        HeraldDesk desk = new HeraldDesk();
        Kit.read(desk, "or");
        Kit.read(desk, "gules");
        Kit.read(desk, " or ");
        desk.person(true, -1, -1, 1);
        Kit.pack(desk, 0, "rule 0 for lion: 1;");
        Kit.pack(desk, 3, "rule 0 for lion: 1; rule 1 for lion: 1;");
        desk.feed(0, 0, 0, 0, 0);
        int[] want = {2, 1, 20, 1, 0, 0, 2};
        for (int what = 0; what < want.length; what++) {
            Kit.due("count(" + what + ")", desk.count(what), want[what]);
        }
        for (int what : new int[] {-1, 7, 8, Integer.MAX_VALUE, Integer.MIN_VALUE}) {
            Kit.due("count(" + what + ")", desk.count(what), -1);
        }
    }
}
