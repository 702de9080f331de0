import java.util.ArrayList;
import java.util.List;
import java.util.Random;

/** Promises 15, 16 and 17: persons, marriages, heiresses, quarterings and marks. */
public final class FamilyTest {
    private static final int NONE = HeraldDesk.NONE;

    public static void main(String[] args) {
        adding();
        marrying();
        heiresses();
        manyQuarterings();
        mostQuarterings();
        hundred();
        for (int seed = 0; seed < 200; seed++) {
            atRandom(new Random(seed));
        }
        Kit.end();
    }

    private static void adding() {
        HeraldDesk desk = Kit.deskWith(2);
        Kit.due("no such shield", desk.person(true, NONE, NONE, 2), NONE);
        Kit.due("no such shield", desk.person(true, NONE, NONE, NONE), NONE);
        Kit.due("a man", desk.person(true, NONE, NONE, 0), 0);
        Kit.due("a woman", desk.person(false, NONE, NONE, 1), 1);
        Kit.due("a woman", desk.person(false, NONE, NONE, 1), 2);
        Kit.due("not married", desk.person(true, 0, 1, 0), NONE);
        Kit.due("marry", desk.marry(0, 1), true);
        int[][] wrong = {{0, NONE}, {NONE, 1}, {1, 0}, {0, 0}, {1, 1}, {0, 2}, {0, 3}, {3, 1}, {-2, 1}, {0, -2}, {-2, -2}, {Integer.MAX_VALUE, Integer.MIN_VALUE}};
        for (int[] two : wrong) {
            Kit.due("no such two " + two[0] + " " + two[1], desk.person(true, two[0], two[1], 0), NONE);
        }
        Kit.due("PERSONS", desk.count(1), 3);
        Kit.due("quartering 0, asked for first", desk.family(2, 100), 1);
        Kit.due("a child, whatever the shield", desk.person(true, 0, 1, 77), 3);
        Kit.due("another", desk.person(false, 0, 1, NONE), 4);
        Kit.due("children of the father", desk.family(0, 5), 2);
        Kit.due("children of the mother", desk.family(1, 5), 2);
        Kit.due("children of others", desk.family(2, 5), 0);
    }

    private static void marrying() {
        HeraldDesk desk = Kit.deskWith(1);
        desk.person(true, NONE, NONE, 0);
        desk.person(false, NONE, NONE, 0);
        desk.person(true, NONE, NONE, 0);
        desk.person(false, NONE, NONE, 0);
        int[][] wrong = {{1, 0}, {0, 2}, {1, 3}, {0, 0}, {0, 4}, {4, 1}, {-1, 1}, {0, -1}, {NONE, NONE}};
        for (int[] two : wrong) {
            Kit.due("marry " + two[0] + " " + two[1], desk.marry(two[0], two[1]), false);
        }
        Kit.due("nobody yet", desk.family(0, 4), NONE);
        Kit.due("marry 0 1", desk.marry(0, 1), true);
        Kit.due("again", desk.marry(0, 1), false);
        Kit.due("a second wife", desk.marry(0, 3), false);
        Kit.due("a second man", desk.marry(2, 1), false);
        Kit.due("marry 2 3", desk.marry(2, 3), true);
        int[] with = {1, 0, 3, 2};
        for (int p = 0; p < 4; p++) {
            Kit.due("with " + p, desk.family(p, 4), with[p]);
        }
    }

    private static void heiresses() {
        HeraldDesk desk = Kit.deskWith(3);
        desk.person(true, NONE, NONE, 0);
        desk.person(false, NONE, NONE, 1);
        desk.marry(0, 1);
        Kit.due("a daughter", desk.person(false, 0, 1, NONE), 2);
        Kit.due("another", desk.person(false, 0, 1, NONE), 3);
        Kit.due("no father, no heiress", desk.family(1, 1), 0);
        Kit.due("both daughters are", desk.family(2, 1), 1);
        Kit.due("both daughters are", desk.family(3, 1), 1);
        desk.person(true, NONE, NONE, 2);
        desk.marry(4, 2);
        Kit.due("a grandson", desk.person(true, 4, 2, NONE), 5);
        quarterings(desk, 5, 2, 0);
        quarterings(desk, 2, 0);
        quarterings(desk, 4, 2);
        Kit.due("generations", desk.family(5, 3), 1);
        Kit.due("a man is no heiress", desk.family(5, 1), 0);
        Kit.due("a brother", desk.person(true, 0, 1, NONE), 6);
        Kit.due("ends it", desk.family(2, 1), 0);
        quarterings(desk, 5, 2);
        Kit.due("second brother", desk.person(true, 0, 1, NONE), 7);
        Kit.due("third daughter", desk.person(false, 0, 1, NONE), 8);
        Kit.due("third brother", desk.person(true, 0, 1, NONE), 9);
        int[] marks = {0, 0, 0, 0, 0, 0, 0, 1, 0, 2};
        for (int p = 0; p < marks.length; p++) {
            Kit.due("mark of " + p, desk.family(p, 2), marks[p]);
        }
        desk.person(false, NONE, NONE, 0);
        desk.marry(9, 10);
        desk.person(true, 9, 10, NONE);
        Kit.due("two generations", desk.family(11, 3), 2);
        for (int what : new int[] {-1, 6, 99, 101, 132, Integer.MAX_VALUE, Integer.MIN_VALUE}) {
            Kit.due("what " + what, desk.family(11, what), NONE);
        }
        for (int p : new int[] {-1, 12, 100, Integer.MAX_VALUE}) {
            Kit.due("person " + p, desk.family(p, 0), NONE);
        }
    }

    private static void quarterings(HeraldDesk desk, int p, int... want) {
        Kit.due("quarterings of " + p, desk.family(p, 0), want.length);
        for (int i = 0; i < want.length; i++) {
            Kit.due("quartering " + i + " of " + p, desk.family(p, 100 + i), want[i]);
        }
        Kit.due("none behind them", desk.family(p, 100 + want.length), NONE);
    }

    /** Each son marries an heiress of a new shield: one quartering more in each generation. */
    private static void manyQuarterings() {
        HeraldDesk desk = Kit.deskWith(40);
        int man = desk.person(true, NONE, NONE, 39);
        int generations = 0;
        for (int i = 0; desk.count(1) + 4 <= 100; i++) {
            int father = desk.person(true, NONE, NONE, i % 38);
            int mother = desk.person(false, NONE, NONE, 38);
            desk.marry(father, mother);
            int heiress = desk.person(false, father, mother, NONE);
            desk.marry(man, heiress);
            man = desk.person(true, man, heiress, NONE);
            generations++;
            Kit.due("quarterings", desk.family(man, 0), generations + 1);
            Kit.due("the last one", desk.family(man, 100 + generations), i);
        }
        Kit.due("generations", desk.family(man, 3), generations);
    }

    /** Each heiress marries a man of a new shield: his comes ahead of hers, and the oldest fall off. */
    private static void mostQuarterings() {
        HeraldDesk desk = Kit.deskWith(45);
        int father = desk.person(true, NONE, NONE, 0);
        int mother = desk.person(false, NONE, NONE, 44);
        desk.marry(father, mother);
        int heiress = desk.person(false, father, mother, NONE);
        for (int shield = 1; shield < 44; shield++) {
            int man = desk.person(true, NONE, NONE, shield);
            desk.marry(man, heiress);
            heiress = desk.person(false, man, heiress, NONE);
            int[] want = new int[Math.min(32, shield + 1)];
            for (int i = 0; i < want.length; i++) {
                want[i] = shield - i;
            }
            Kit.due("how many", desk.family(heiress, 0), want.length);
            if (shield == 31 || shield == 32 || shield == 43) {
                quarterings(desk, heiress, want);
            }
        }
        int son = desk.person(true, desk.family(heiress - 2, 4), heiress - 2, NONE);
        Kit.due("a brother of the last heiress", desk.family(heiress, 1), 0);
        quarterings(desk, son, desk.family(heiress, 100), 42, 41, 40, 39, 38, 37, 36, 35, 34, 33, 32, 31, 30, 29, 28, 27, 26, 25, 24, 23, 22, 21, 20, 19, 18, 17, 16, 15, 14, 13, 12);
    }

    private static void hundred() {
        HeraldDesk desk = Kit.deskWith(1);
        desk.person(true, NONE, NONE, 0);
        desk.person(false, NONE, NONE, 0);
        desk.marry(0, 1);
        for (int p = 2; p < 100; p++) {
            Kit.due("person", desk.person(true, 0, 1, NONE), p);
        }
        Kit.due("the 101st", desk.person(true, 0, 1, NONE), NONE);
        Kit.due("the 101st", desk.person(true, NONE, NONE, 0), NONE);
        Kit.due("the last one's mark", desk.family(99, 2), 97);
        Kit.due("children", desk.family(0, 5), 98);
    }

    /** Random families against lists gathered by recursion; a desk has no more than 512 calls. */
    private static void atRandom(Random random) {
        HeraldDesk desk = Kit.deskWith(30);
        int calls = 30 * 3;
        List<int[]> people = new ArrayList<>();
        List<Integer> married = new ArrayList<>();
        for (int i = 0; i < 160; i++) {
            boolean man = random.nextInt(5) < 2;
            int a = people.isEmpty() ? 0 : random.nextInt(people.size());
            int b = people.isEmpty() ? 0 : random.nextInt(people.size());
            if (random.nextInt(3) == 0 || people.size() < 2) {
                boolean can = people.size() < 100;
                int shield = random.nextInt(30);
                Kit.due("founder", desk.person(man, NONE, NONE, shield), can ? people.size() : NONE);
                if (can) {
                    people.add(new int[] {man ? 1 : 0, NONE, NONE, shield});
                    married.add(NONE);
                }
            } else if (random.nextInt(3) > 0) {
                int with = married.get(a);
                boolean can = people.size() < 100 && with != NONE && people.get(a)[0] == 1;
                Kit.due("child", desk.person(man, a, with, NONE), can ? people.size() : NONE);
                if (can) {
                    people.add(new int[] {man ? 1 : 0, a, with, NONE});
                    married.add(NONE);
                }
            } else {
                boolean can = people.get(a)[0] == 1 && people.get(b)[0] == 0 && married.get(a) == NONE && married.get(b) == NONE;
                Kit.due("marry", desk.marry(a, b), can);
                if (can) {
                    married.set(a, b);
                    married.set(b, a);
                }
            }
            calls++;
            int asked = people.isEmpty() ? 0 : random.nextInt(people.size());
            int needed = people.isEmpty() ? 0 : gathered(people, asked).size() + 5;
            if (needed > 0 && i % 4 == 0 && calls + needed + 160 - i <= 512) {
                check(desk, people, asked);
                calls += needed;
            }
        }
    }

    /** Five calls, and one for each quartering. */
    private static void check(HeraldDesk desk, List<int[]> people, int p) {
        List<Integer> want = gathered(people, p);
        Kit.due("how many of " + p, desk.family(p, 0), want.size());
        for (int i = 0; i <= want.size(); i++) {
            Kit.due("quartering", desk.family(p, 100 + i), i < want.size() ? want.get(i) : NONE);
        }
        Kit.due("heiress", desk.family(p, 1), heiress(people, p) ? 1 : 0);
        int[] one = people.get(p);
        int mark = 0;
        int children = 0;
        for (int q = 0; q < people.size(); q++) {
            int[] other = people.get(q);
            mark += q < p && one[0] == 1 && one[1] != NONE && other[0] == 1 && other[1] == one[1] ? 1 : 0;
            children += other[1] == p || other[2] == p ? 1 : 0;
        }
        Kit.due("mark", desk.family(p, 2), mark);
        Kit.due("children", desk.family(p, 5), children);
    }

    static boolean heiress(List<int[]> people, int p) {
        int[] one = people.get(p);
        if (one[0] == 1 || one[1] == NONE) {
            return false;
        }
        for (int[] other : people) {
            if (other[0] == 1 && other[1] == one[1]) {
                return false;
            }
        }
        return true;
    }

    static List<Integer> gathered(List<int[]> people, int p) {
        int[] one = people.get(p);
        if (one[1] == NONE) {
            return new ArrayList<>(List.of(one[3]));
        }
        List<Integer> all = gathered(people, one[1]);
        if (heiress(people, one[2])) {
            for (int shield : gathered(people, one[2])) {
                if (!all.contains(shield) && all.size() < 32) {
                    all.add(shield);
                }
            }
        }
        return all;
    }
}
