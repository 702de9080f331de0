import java.util.ArrayList;
import java.util.Arrays;
import java.util.List;
import java.util.Random;
import java.util.TreeMap;

/**
 * All promises in one: runs of at most 512 calls of every kind on one desk. What is due is told by what
 * the run has told the desk before, by the second ways of the other tests, never by the desk's own answers.
 */
public final class MixedRunsTest {
    private static final int NONE = HeraldDesk.NONE;
    private static final int MOST_CALLS = 512;
    /** A tape emptied, twelve feeds, a text read, and what is asked behind it. */
    private static final int DEAREST = 20;
    private static final String[] ATTITUDES = {"", " rampant", " passant", " sejant", " displayed", " close"};
    private static final String[] DUTIES = {" armed ", " attired ", " crowned ", " seeded ", " masoned "};
    private static final int[][] DUTIES_OF = {{16, 17, 19}, {18}, {16, 19}, {21}, {29}};

    /** The duties are pairs: which, and its tincture. */
    private record Piece(int place, int kind, int number, int attitude, int tincture, List<List<Integer>> duties) {
        static Piece plain(Random random, int place, int kind) {
            return new Piece(place, kind, 1, 0, random.nextInt(9), List.of());
        }

        static Piece charges(Random random, int place) {
            int kind = 16 + random.nextInt(14);
            int attitude = kind < 19 ? 1 + random.nextInt(3) : kind == 19 ? 4 + random.nextInt(2) : 0;
            List<List<Integer>> duties = new ArrayList<>();
            for (int duty = 0; duty < 5; duty++) {
                if (Arrays.stream(DUTIES_OF[duty]).anyMatch(of -> of == kind) && random.nextBoolean()) {
                    duties.add(List.of(duty, random.nextInt(9)));
                }
            }
            return new Piece(place, kind, 1 + random.nextInt(6), attitude, random.nextInt(9), duties);
        }

        String text() {
            String[] ahead = {", ", " charged with ", ", ", ", ", " charged with ", ", within ", ", for difference "};
            StringBuilder text = new StringBuilder(ahead[place] + Kit.NUMBERS[number - 1] + " " + Kit.named(kind, number) + ATTITUDES[attitude] + " " + Kit.TINCTURES[tincture]);
            for (List<Integer> duty : duties) {
                text.append(DUTIES[duty.get(0)]).append(Kit.TINCTURES[duty.get(1)]);
            }
            return text.toString();
        }
    }

    private record Arms(int parting, int first, int second, List<Piece> pieces) {
        static Arms any(Random random) {
            int parting = random.nextBoolean() ? 0 : 1 + random.nextInt(10);
            int first = random.nextInt(9);
            int second = parting == 0 ? NONE : (first + 1 + random.nextInt(8)) % 9;
            List<Piece> pieces = new ArrayList<>();
            for (int place = 0; place < 7; place++) {
                boolean on = place == 1 || place == 4;
                boolean can = !on || !pieces.isEmpty() && pieces.get(pieces.size() - 1).place() == place - 1;
                if (can && random.nextInt(5) < 2) {
                    pieces.add(switch (place) {
                        case 0 -> Piece.plain(random, place, 8 + random.nextInt(7));
                        case 3 -> Piece.plain(random, place, 7);
                        case 5 -> Piece.plain(random, place, 15);
                        case 6 -> Piece.plain(random, place, new int[] {30, 25, 24, 20, 26, 22, 21}[random.nextInt(7)]);
                        default -> Piece.charges(random, place);
                    });
                }
            }
            return new Arms(parting, first, second, pieces);
        }

        String text() {
            String field = parting == 0 ? Kit.TINCTURES[first] : Kit.PARTINGS[parting - 1] + " " + Kit.TINCTURES[first] + " and " + Kit.TINCTURES[second];
            StringBuilder text = new StringBuilder(field);
            pieces.forEach(piece -> text.append(piece.text()));
            return text.toString();
        }

        Piece at(int place) {
            return pieces.stream().filter(piece -> piece.place() == place).findAny().orElse(null);
        }

        int[] values(Piece piece) {
            int below = parting == 0 || sort(first) == sort(second) ? sort(first) : 0;
            if (piece.place() == 1 || piece.place() == 4) {
                below = sort(at(piece.place() - 1).tincture());
            }
            return new int[] {sort(piece.tincture()), below, piece.tincture(), piece.number(), piece.attitude(), piece.duties().size(), piece.kind(), piece.place()};
        }

        int[][] picture() {
            int[][] picture = DrawingTest.field(parting, first, second);
            for (Piece piece : pieces) {
                DrawingTest.paintPart(picture, piece.kind(), piece.tincture(), piece.number(), piece.place());
            }
            return picture;
        }

        private static int sort(int tincture) {
            return new int[] {1, 1, 2, 2, 2, 2, 2, 0, 0}[tincture];
        }
    }

    private final Random random;
    private final HeraldDesk desk = new HeraldDesk();
    private int calls;
    private int taped;
    private final List<Arms> shields = new ArrayList<>();
    private final List<TreeMap<Integer, PackOracleTest.Tree>> offices = new ArrayList<>();
    private String written = "";
    private int begun;
    /** Each a row: 1 for a man, father, mother, shield. */
    private final List<int[]> people = new ArrayList<>();
    private final List<Integer> married = new ArrayList<>();

    private MixedRunsTest(Random random) {
        this.random = random;
        for (int office = 0; office < 4; office++) {
            offices.add(new TreeMap<>());
        }
    }

    public static void main(String[] args) {
        for (int seed = 0; seed < 800; seed++) {
            MixedRunsTest run = new MixedRunsTest(new Random(seed));
            run.begin(seed % 4);
            while (run.calls <= MOST_CALLS - DEAREST) {
                boolean families = seed % 4 == 3 && run.shields.size() > 2;
                run.step(families ? 13 + run.random.nextInt(5) : run.random.nextInt(19));
            }
        }
        Kit.end();
    }

    private void due(String call, int got, int want) {
        calls++;
        Kit.due("call " + calls + ", " + call, got, want);
    }

    /** Some runs begin with nearly as many shields or persons as there may be. */
    private void begin(int sort) {
        for (int i = 0; i < 58 && sort == 1; i++) {
            tellArms(new Arms(7, i / 8, (i / 8 + 1 + i % 8) % 9, List.of()));
        }
        for (int i = 0; i < 104 && sort == 2; i++) {
            if (i == 0) {
                tellArms(Arms.any(random));
            }
            addPerson(true);
        }
    }

    private void step(int sort) {
        switch (sort) {
            case 0, 1 -> tellArms(random.nextInt(4) == 0 && !shields.isEmpty() ? shields.get(random.nextInt(shields.size())) : Arms.any(random));
            case 2 -> tellPack();
            case 3 -> refusedArms();
            case 4 -> refusedPack();
            case 5 -> wrongLength();
            case 6 -> writing();
            case 7 -> looking();
            case 8, 9 -> judging();
            case 10 -> choosing();
            case 11 -> drawing();
            case 12 -> differing();
            case 13, 14 -> addPerson(random.nextInt(3) == 0 || people.size() < 2);
            case 15 -> joining();
            case 16, 17 -> asking();
            default -> counting();
        }
    }

    private int any(int below) {
        int[] edges = {Integer.MIN_VALUE, Integer.MAX_VALUE, -2, -1, below, below + 1};
        return below == 0 || random.nextInt(12) == 0 ? edges[random.nextInt(edges.length)] : random.nextInt(below);
    }

    /** Mostly a man (1) or a woman (0) who is married, or is not; the later ones more often. */
    private int anyone(int man, boolean isMarried) {
        List<Integer> fitting = new ArrayList<>();
        for (int p = 0; p < people.size(); p++) {
            if (people.get(p)[0] == man && (married.get(p) != NONE) == isMarried) {
                fitting.add(p);
            }
        }
        if (fitting.isEmpty() || random.nextInt(6) == 0) {
            return any(people.size());
        }
        return fitting.get(Math.max(random.nextInt(fitting.size()), random.nextInt(fitting.size())));
    }

    private static boolean isBelow(int n, int bound) {
        return n >= 0 && n < bound;
    }

    private void feed(String text) {
        if (taped > 0) {
            taped = 0;
            due("read(0)", desk.read(0), -2);
        }
        Kit.feed(desk, text);
        calls += (text.length() + 19) / 20;
        taped = (text.length() + 19) / 20 * 20;
        due("count(2)", desk.count(2), taped);
    }

    private void read(String text, int want) {
        feed(text);
        due("read " + text, desk.read(text.length()), want);
        taped = 0;
    }

    private void pack(int office, String text, int want) {
        feed(text);
        due("pack " + text, desk.pack(office, text.length()), want);
        taped = 0;
    }

    private void tellArms(Arms arms) {
        String text = arms.text();
        if (text.length() > 240) {
            return;
        }
        String spaced = ShieldOracleTest.spaced(ShieldOracleTest.tokensOf(text), random);
        if (!shields.contains(arms) && shields.size() < 60) {
            shields.add(arms);
        }
        read(spaced.length() <= 240 ? spaced : text, shields.indexOf(arms));
    }

    private void tellPack() {
        int office = random.nextInt(4);
        TreeMap<Integer, PackOracleTest.Tree> bodies = new TreeMap<>();
        StringBuilder text = new StringBuilder();
        for (int i = random.nextInt(13); i > 0; i--) {
            int rule = random.nextInt(4);
            int kind = random.nextBoolean() ? random.nextInt(7) : random.nextInt(31);
            PackOracleTest.Tree tree = PackOracleTest.tree(random, random.nextInt(4));
            String body = "rule " + rule + " for " + Kit.KINDS[kind] + ":" + tree.text(random) + ";";
            if (text.length() + body.length() <= 240 && bodies.putIfAbsent(rule * 32 + kind, tree) == null) {
                text.append(body);
            }
        }
        offices.set(office, bodies);
        pack(office, text.toString(), bodies.size());
    }

    private void refusedArms() {
        String text = ShieldOracleTest.spaced(ShieldOracleTest.changed(ShieldOracleTest.tokensOf(Arms.any(random).text()), random), random);
        if (text.length() <= 240 && ShieldOracleTest.answer(text) < 0) {
            read(text, ShieldOracleTest.answer(text));
        }
    }

    private void refusedPack() {
        PackOracleTest.Laid laid = PackOracleTest.laid(random);
        if (laid.text().length() <= 240 && laid.refused() >= 0) {
            pack(random.nextInt(4), laid.text(), -2 - laid.refused());
        }
    }

    private void wrongLength() {
        feed(Arms.any(random).text().substring(0, 2));
        due("read", desk.read(random.nextBoolean() ? taped + 1 : -1), NONE);
        due("pack", desk.pack(random.nextBoolean() ? -1 : 4, 0), NONE);
        due("pack", desk.pack(2, random.nextBoolean() ? Integer.MAX_VALUE : Integer.MIN_VALUE), NONE);
        due("feed", desk.feed(-1, 0, 0, 0, 1), taped + 20);
        taped += 20;
    }

    private void writing() {
        int k = any(shields.size());
        written = isBelow(k, shields.size()) ? shields.get(k).text() : written;
        due("write(" + k + ")", desk.write(k), isBelow(k, shields.size()) ? written.length() : NONE);
        for (int i = 0; i < 8; i++) {
            int place = any(written.length());
            due("octet(" + place + ")", desk.octet(place), isBelow(place, written.length()) ? written.charAt(place) : NONE);
        }
    }

    private void looking() {
        int k = any(shields.size());
        for (int i = 0; i < 8; i++) {
            int what = random.nextBoolean() ? any(10) : any(70);
            due("look(" + k + ", " + what + ")", desk.look(k, what), isBelow(k, shields.size()) ? seen(shields.get(k), what) : NONE);
        }
    }

    private static int seen(Arms arms, int what) {
        if (what < 10 || what >= 10 + 8 * arms.pieces().size()) {
            return isBelow(what, 4) ? new int[] {arms.parting(), arms.first(), arms.second(), arms.pieces().size()}[what] : NONE;
        }
        Piece piece = arms.pieces().get((what - 10) / 8);
        int duties = piece.duties().size();
        int firstDuty = duties == 0 ? NONE : piece.duties().get(0).get(1);
        int lastDuty = duties == 0 ? NONE : piece.duties().get(duties - 1).get(1);
        return new int[] {piece.kind(), piece.tincture(), piece.number(), piece.attitude(), piece.place(), duties, firstDuty, lastDuty}[(what - 10) % 8];
    }

    private void judging() {
        int k = any(shields.size());
        int p = any(7);
        int rule = any(4);
        int office = any(4);
        boolean known = isBelow(k, shields.size()) && isBelow(rule, 4) && isBelow(office, 4);
        PackOracleTest.begun = 0;
        int sum = 0;
        for (int i = 0; known && i < shields.get(k).pieces().size(); i++) {
            sum += number(shields.get(k), i, rule, office);
        }
        begun = PackOracleTest.begun;
        due("judge(" + k + ", " + rule + ", " + office + ")", desk.judge(k, rule, office), sum);
        due("ran()", desk.ran(), begun);
        PackOracleTest.begun = 0;
        int one = known && isBelow(p, shields.get(k).pieces().size()) ? number(shields.get(k), p, rule, office) : 0;
        begun = PackOracleTest.begun;
        due("part(" + k + ", " + p + ", " + rule + ", " + office + ")", desk.part(k, p, rule, office), one);
    }

    private int number(Arms arms, int p, int rule, int office) {
        Piece piece = arms.pieces().get(p);
        return PackOracleTest.ask(arms.values(piece), rule, offices.get(office), piece.kind(), true);
    }

    private void choosing() {
        int kind = any(31);
        int rule = any(4);
        int office = any(4);
        boolean known = isBelow(kind, 31) && isBelow(rule, 4) && isBelow(office, 4);
        due("chosen(" + kind + ", " + rule + ", " + office + ")", desk.chosen(kind, rule, office), known ? PackOracleTest.choice(offices.get(office), kind, rule) : NONE);
        due("ran()", desk.ran(), begun);
    }

    private void drawing() {
        int k = any(shields.size());
        boolean known = isBelow(k, shields.size());
        int[][] picture = known ? shields.get(k).picture() : new int[72][60];
        for (int i = 0; i < 8; i++) {
            int x = any(60);
            int y = any(72);
            due("point(" + k + ", " + x + ", " + y + ")", desk.point(k, x, y), known && DrawingTest.inside(x, y) ? picture[y][x] : NONE);
        }
        int tincture = any(9);
        int found = 0;
        for (int y = 0; y < 72; y++) {
            for (int x = 0; x < 60; x++) {
                found += DrawingTest.inside(x, y) && picture[y][x] == tincture ? 1 : 0;
            }
        }
        due("points(" + k + ", " + tincture + ")", desk.points(k, tincture), known && isBelow(tincture, 9) ? found : NONE);
    }

    private void differing() {
        int k = any(shields.size());
        int q = any(shields.size());
        due("differ(" + k + ", " + q + ")", desk.differ(k, q), isBelow(k, shields.size()) && isBelow(q, shields.size()) ? differences(shields.get(k), shields.get(q)) : NONE);
    }

    private static int differences(Arms one, Arms other) {
        boolean fields = one.parting() == other.parting() && one.first() == other.first() && one.second() == other.second();
        int found = fields ? 0 : 1;
        for (int place = 0; place < 7; place++) {
            Piece a = one.at(place);
            Piece b = other.at(place);
            found += a == null ? b == null ? 0 : 1 : a.equals(b) ? 0 : 1;
        }
        return found;
    }

    private void addPerson(boolean founder) {
        boolean man = random.nextBoolean();
        int father = founder ? NONE : anyone(1, true);
        int mother = founder ? NONE : isBelow(father, people.size()) && random.nextInt(8) > 0 ? married.get(father) : any(people.size());
        int shield = any(shields.size());
        boolean can = father == NONE && mother == NONE ? isBelow(shield, shields.size()) : isCouple(father, mother);
        can &= people.size() < 100;
        due("person(" + man + ", " + father + ", " + mother + ", " + shield + ")", desk.person(man, father, mother, shield), can ? people.size() : NONE);
        if (can) {
            people.add(new int[] {man ? 1 : 0, father, mother, shield});
            married.add(NONE);
        }
    }

    private boolean isCouple(int father, int mother) {
        return isBelow(father, people.size()) && isBelow(mother, people.size()) && people.get(father)[0] == 1 && married.get(father) == mother;
    }

    private void joining() {
        for (int i = 0; i < 4; i++) {
            int man = anyone(1, false);
            int woman = anyone(0, false);
            boolean can = isBelow(man, people.size()) && isBelow(woman, people.size()) && people.get(man)[0] == 1 && people.get(woman)[0] == 0
                && married.get(man) == NONE && married.get(woman) == NONE;
            due("marry(" + man + ", " + woman + ")", desk.marry(man, woman) ? 1 : 0, can ? 1 : 0);
            if (can) {
                married.set(man, woman);
                married.set(woman, man);
            }
        }
    }

    private void asking() {
        int p = any(people.size());
        for (int i = 0; i < 5; i++) {
            int what = random.nextInt(3) == 0 ? 100 + random.nextInt(4) : any(7);
            due("family(" + p + ", " + what + ")", desk.family(p, what), isBelow(p, people.size()) ? told(p, what) : NONE);
        }
    }

    private int told(int p, int what) {
        int[] one = people.get(p);
        List<Integer> quarterings = FamilyTest.gathered(people, p);
        return switch (what) {
            case 0 -> quarterings.size();
            case 1 -> FamilyTest.heiress(people, p) ? 1 : 0;
            case 2 -> one[0] == 0 || one[1] == NONE ? 0 : (int) people.subList(0, p).stream().filter(other -> other[0] == 1 && other[1] == one[1]).count();
            case 3 -> generations(p);
            case 4 -> married.get(p);
            case 5 -> (int) people.stream().filter(other -> other[1] == p || other[2] == p).count();
            default -> what >= 100 && what - 100 < quarterings.size() ? quarterings.get(what - 100) : NONE;
        };
    }

    private int generations(int p) {
        int father = people.get(p)[1];
        return father == NONE ? 0 : 1 + generations(father);
    }

    private void counting() {
        int what = any(7);
        int[] want = {shields.size(), people.size(), taped, offices.get(0).size(), offices.get(1).size(), offices.get(2).size(), offices.get(3).size()};
        due("count(" + what + ")", desk.count(what), isBelow(what, 7) ? want[what] : NONE);
    }
}
