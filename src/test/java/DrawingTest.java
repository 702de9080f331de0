import java.util.Arrays;
import java.util.Random;

/** Promises 12 and 13: points one by one, and their numbers, against a picture painted layer by layer. */
public final class DrawingTest {
    private static final int NONE = HeraldDesk.NONE;
    private static final int[][][] MIDDLES = {{}, {{0, 0}}, {{-20, 0}, {20, 0}}, {{-20, -30}, {20, -30}, {0, 20}},
        {{-20, -30}, {20, -30}, {-20, 20}, {20, 20}}, {{-20, -30}, {20, -30}, {-20, 20}, {20, 20}, {0, -5}},
        {{-24, -30}, {0, -30}, {24, -30}, {-14, 0}, {14, 0}, {0, 30}}};

    public static void main(String[] args) {
        edges();
        Random random = new Random(7);
        for (int i = 0; i < 400; i++) {
            String text = Kit.shield(random);
            if (text.length() <= 240) {
                compare(text);
            }
        }
        everyShape();
        Kit.end();
    }

    private static void edges() {
        HeraldDesk desk = new HeraldDesk();
        Kit.read(desk, "per pale or and gules");
        int[][] rows = {{0, 0, 0}, {29, 0, 0}, {30, 0, 2}, {59, 0, 2}, {59, 35, 2}, {0, 36, 0}, {0, 40, 0}, {0, 41, NONE}, {59, 41, NONE}, {1, 41, 0}, {27, 71, NONE},
            {28, 71, 0}, {31, 71, 2}, {32, 71, NONE}, {60, 0, NONE}, {-1, 0, NONE}, {0, -1, NONE}, {30, 72, NONE}, {Integer.MAX_VALUE, 0, NONE},
            {0, Integer.MIN_VALUE, NONE}, {Integer.MIN_VALUE, Integer.MIN_VALUE, NONE}};
        for (int[] row : rows) {
            Kit.due("point(0, " + row[0] + ", " + row[1] + ")", desk.point(0, row[0], row[1]), row[2]);
        }
        Kit.due("point(1, 0, 0)", desk.point(1, 0, 0), NONE);
        Kit.due("point(-1, 0, 0)", desk.point(-1, 0, 0), NONE);
        int[] want = {1823, 0, 1823, 0, 0, 0, 0, 0, 0};
        for (int tincture = 0; tincture < 9; tincture++) {
            Kit.due("points(0, " + tincture + ")", desk.points(0, tincture), want[tincture]);
        }
        for (int tincture : new int[] {-1, 9, Integer.MAX_VALUE, Integer.MIN_VALUE}) {
            Kit.due("points(0, " + tincture + ")", desk.points(0, tincture), NONE);
        }
        Kit.due("points(1, 0)", desk.points(1, 0), NONE);
        Kit.due("points(-1, 0)", desk.points(-1, 0), NONE);
    }

    private static void everyShape() {
        for (int kind = 8; kind <= 14; kind++) {
            compare("or, a " + Kit.KINDS[kind] + " gules, within a bordure vert");
        }
        for (String mark : Kit.MARKS) {
            compare("or, a chief sable, for difference a " + mark + " gules");
        }
        for (int kind = 16; kind <= 29; kind++) {
            for (int number = 1; number <= 6; number++) {
                String name = Kit.NUMBERS[number - 1] + " " + Kit.named(kind, number) + Kit.attitude(kind);
                compare("or, " + name + " gules");
                compare("or, a pale azure charged with " + name + " gules, a chief sable charged with " + name + " vert");
            }
        }
        for (String parting : Kit.PARTINGS) {
            compare(parting + " or and gules");
        }
    }

    private static void compare(String text) {
        HeraldDesk desk = new HeraldDesk();
        Kit.due(text, Kit.read(desk, text), 0);
        int[][] picture = paint(desk);
        int[] found = new int[9];
        for (int y = -1; y <= 72; y++) {
            desk = new HeraldDesk();
            Kit.read(desk, text);
            for (int x = -1; x <= 60; x++) {
                int want = inside(x, y) ? picture[y][x] : NONE;
                Kit.due(text + " at " + x + " " + y, desk.point(0, x, y), want);
                if (want != NONE) {
                    found[want]++;
                }
            }
        }
        int[] got = new int[9];
        for (int tincture = 0; tincture < 9; tincture++) {
            got[tincture] = desk.points(0, tincture);
        }
        Kit.due("points of " + text, Arrays.toString(got), Arrays.toString(found));
    }

    static boolean inside(int x, int y) {
        return x >= 0 && x <= 59 && y >= 0 && y <= 71 && (y < 36 || Math.abs(2 * x - 59) <= 59 - Math.floorDiv((y - 36) * (y - 36), 22));
    }

    private static int[][] paint(HeraldDesk desk) {
        int[][] picture = field(desk.look(0, 0), desk.look(0, 1), desk.look(0, 2));
        int parts = desk.look(0, 3);
        for (int p = 0; p < parts; p++) {
            int from = 10 + 8 * p;
            paintPart(picture, desk.look(0, from), desk.look(0, from + 1), desk.look(0, from + 2), desk.look(0, from + 4));
        }
        return picture;
    }

    static int[][] field(int parting, int first, int second) {
        int[][] picture = new int[72][60];
        for (int y = 0; y < 72; y++) {
            for (int x = 0; x < 60; x++) {
                picture[y][x] = isSecond(parting, x, y) ? second : first;
            }
        }
        return picture;
    }

    private static boolean isSecond(int parting, int x, int y) {
        int u = 2 * x - 59;
        int v = 2 * y - 71;
        return switch (parting) {
            case 1 -> x >= 30;
            case 2 -> y >= 36;
            case 3 -> u > v;
            case 4 -> v > u && v > -u;
            case 5 -> u * u > v * v;
            case 6 -> x >= 30 && y < 36 || x < 30 && y >= 36;
            case 7 -> x / 10 % 2 == 1;
            case 8 -> y / 12 % 2 == 1;
            case 9 -> (x + y) / 12 % 2 == 1;
            case 10 -> (x / 10 + y / 12) % 2 == 1;
            default -> false;
        };
    }

    static void paintPart(int[][] picture, int kind, int tincture, int number, int place) {
        int side = place == 6 ? 8 : number == 1 ? 16 : number < 4 ? 12 : 10;
        for (int y = 0; y < 72; y++) {
            for (int x = 0; x < 60; x++) {
                int u = 2 * x - 59;
                int v = 2 * y - 71;
                boolean has = switch (place) {
                    case 0 -> ordinary(kind, u, v);
                    case 3 -> y < 22;
                    case 5 -> !(inside(x - 5, y) && inside(x + 5, y) && inside(x, y - 5) && inside(x, y + 5));
                    default -> false;
                };
                for (int i = 0; i < number && place != 0 && place != 3 && place != 5; i++) {
                    int middleU = place == 2 ? MIDDLES[number][i][0] : place == 6 ? 0 : -(number - 1) * (side + 2) + i * 2 * (side + 2);
                    int middleV = place == 2 ? MIDDLES[number][i][1] : place == 6 ? -30 : place == 4 ? -49 : 0;
                    has |= charge(kind, side, u - middleU, v - middleV);
                }
                picture[y][x] = has ? tincture : picture[y][x];
            }
        }
    }

    private static boolean ordinary(int kind, int u, int v) {
        int au = Math.abs(u);
        return switch (Kit.KINDS[kind]) {
            case "pale" -> au < 20;
            case "fess" -> Math.abs(v) < 24;
            case "bend" -> Math.abs(u - v) < 24;
            case "chevron" -> Math.abs(v - au) < 20 && v > -30;
            case "cross" -> au < 14 || Math.abs(v) < 14;
            case "saltire" -> Math.abs(u - v) < 18 || Math.abs(u + v) < 18;
            default -> 3 * au < 71 - v && v < 50;
        };
    }

    private static boolean charge(int kind, int h, int d, int e) {
        boolean box = Math.max(Math.abs(d), Math.abs(e)) < h;
        boolean lozenge = Math.abs(d) + Math.abs(e) < h;
        boolean disc = d * d + e * e < h * h;
        boolean stripe = (d + 64) / 4 % 2 == 1;
        return switch (Kit.KINDS[kind]) {
            case "lion", "boar", "stag" -> box;
            case "eagle", "martlet" -> lozenge;
            case "rose", "lily", "trefoil", "roundel" -> disc;
            case "mullet" -> lozenge || Math.max(Math.abs(d), Math.abs(e)) < h / 2;
            case "crescent" -> disc && d * d + (e + h / 2) * (e + h / 2) >= h * h / 2;
            case "annulet" -> disc && d * d + e * e >= h * h / 4;
            case "billet" -> box && 2 * Math.abs(d) < h;
            case "tower" -> box && (e > 0 || stripe);
            default -> Math.abs(d) < h && (Math.abs(e) < 2 || e > 0 && stripe);
        };
    }
}
