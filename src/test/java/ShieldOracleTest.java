import java.util.ArrayList;
import java.util.List;
import java.util.Random;
import java.util.regex.Matcher;
import java.util.regex.Pattern;

/** Promises 3 and 5 against a regular expression: shields have no brackets, so one can tell them. */
public final class ShieldOracleTest {
    private static final String T = "(?:or|argent|gules|azure|sable|vert|purpure|ermine|vair) ";
    private static final Pattern SHIELD = Pattern.compile(shieldPattern());
    private static final String[] WORDS = ("per quarterly paly chequy pale fess bend saltire pile and or argent vair ermine , , , , , , a a a a two six within for "
        + "difference bordure chief charged with lion lions eagle eagles martlet rose roses lily lilies tower towers label mullet mullets "
        + "rampant sejant displayed close armed attired crowned seeded masoned part beast lilys foo abcdefghijklmn ! 7").split(" ");

    public static void main(String[] args) {
        Random random = new Random(20261116);
        for (int i = 0; i < 6000; i++) {
            String text = Kit.shield(random);
            if (text.length() <= 240) {
                oneSpelling(text, random);
            }
            anyPlace(changed(tokensOf(text), random), random);
        }
        Kit.end();
    }

    private static void oneSpelling(String text, Random random) {
        HeraldDesk desk = new HeraldDesk();
        String spaced = spaced(tokensOf(text), random);
        Kit.due(spaced, Kit.read(desk, spaced.length() <= 240 ? spaced : text), 0);
        Kit.due(text + " written", Kit.written(desk, 0), text);
        Kit.due(text + " read again", Kit.read(desk, text), 0);
    }

    private static void anyPlace(List<String> tokens, Random random) {
        String text = spaced(tokens, random);
        if (text.length() <= 240) {
            HeraldDesk desk = new HeraldDesk();
            Kit.due("[" + text + "]", Kit.read(desk, text), answer(text));
        }
    }

    /** 0, or -2 less the first place of a token behind which no match could go on. */
    static int answer(String text) {
        Matcher token = Pattern.compile("[a-z]+|[^ ]").matcher(text);
        StringBuilder sofar = new StringBuilder();
        while (token.find()) {
            sofar.append(token.group()).append(' ');
            Matcher matcher = SHIELD.matcher(sofar);
            if (!matcher.matches() && !matcher.hitEnd()) {
                return -2 - token.start();
            }
        }
        return SHIELD.matcher(sofar).matches() ? 0 : -2 - text.length();
    }

    private static String shieldPattern() {
        StringBuilder fields = new StringBuilder(T);
        for (String first : Kit.TINCTURES) {
            for (String second : Kit.TINCTURES) {
                if (!first.equals(second)) {
                    fields.append("|(?:per (?:pale|fess|bend|chevron|saltire)|quarterly|paly|barry|bendy|chequy) " + first + " and " + second + " ");
                }
            }
        }
        String charges = "(?:a " + group("") + "|(?:two|three|four|five|six) " + group("s") + ")";
        String on = "(?:charged with " + charges + ")?";
        return "(?:" + fields + ")(?:, a (?:pale|fess|bend|chevron|cross|saltire|pile) " + T + on + ")?(?:, " + charges + ")?(?:, a chief " + T + on
            + ")?(?:, within a bordure " + T + ")?(?:, for difference a (?:label|crescent|mullet|martlet|annulet|lily|rose) " + T + ")?";
    }

    private static String group(String s) {
        String lily = s.isEmpty() ? "lily" : "lilies";
        String beasts = "(?:rampant|passant|sejant) " + T;
        String armed = "(?:armed " + T + ")?";
        String crowned = "(?:crowned " + T + ")?";
        return "(?:lion" + s + " " + beasts + armed + crowned + "|boar" + s + " " + beasts + armed + "|stag" + s + " " + beasts + "(?:attired " + T + ")?"
            + "|eagle" + s + " (?:displayed|close) " + T + armed + crowned + "|rose" + s + " " + T + "(?:seeded " + T + ")?"
            + "|tower" + s + " " + T + "(?:masoned " + T + ")?"
            + "|(?:martlet" + s + "|" + lily + "|trefoil" + s + "|mullet" + s + "|crescent" + s + "|annulet" + s + "|roundel" + s + "|billet" + s + ") " + T + ")";
    }

    static List<String> tokensOf(String text) {
        List<String> tokens = new ArrayList<>();
        Matcher token = Pattern.compile("[a-z]+|[^ ]").matcher(text);
        while (token.find()) {
            tokens.add(token.group());
        }
        return tokens;
    }

    static List<String> changed(List<String> tokens, Random random) {
        int changes = random.nextInt(3);
        for (int i = 0; i < changes && !tokens.isEmpty(); i++) {
            int at = random.nextInt(tokens.size());
            switch (random.nextInt(4)) {
                case 0 -> tokens.remove(at);
                case 1 -> tokens.add(at, Kit.pick(random, WORDS));
                case 2 -> tokens.set(at, Kit.pick(random, WORDS));
                default -> tokens.subList(at, tokens.size()).clear();
            }
        }
        return tokens;
    }

    static String spaced(List<String> tokens, Random random) {
        StringBuilder text = new StringBuilder(" ".repeat(random.nextInt(2)));
        String before = ",";
        for (String token : tokens) {
            boolean must = Character.isLetter(before.charAt(0)) && Character.isLetter(token.charAt(0));
            text.append(" ".repeat((must ? 1 : 0) + (random.nextInt(6) == 0 ? 1 : 0))).append(token);
            before = token;
        }
        return text.append(" ".repeat(random.nextInt(3) == 0 ? 1 : 0)).toString();
    }
}
