import java.util.Random;
import java.util.regex.Matcher;
import java.util.regex.Pattern;

/** Promise 4: texts a little beside right frames, judged by patterns that say the same otherwise. */
public final class GrammarTest {
    private static final int TEXTS = 60000;
    private static final Pattern FRAME =
        Pattern.compile(" *N(\\d{1,5})((?: *[A-Z]-?\\d{1,5})*) *\\*(\\d{1,3}) *");
    private static final String[] SEEDS = {
        "N0 G90", "N0G91", " N0 G4 P7", "N0 G92 X-5 Y6 E7", "N0 G92E1", "N0G1 X5 Y60 E-70 F800",
        "N0 G1 X500", "N0 G1 E-500 F1000", "N00000 G00001 Y00003", "N0 G4P200", "N0 G1",
    };
    private static final String CHARACTERS = "N0123456789 GXYEFP-*AZaz@[/:.~";

    private final Random random = new Random(7);

    public static void main(String[] args) {
        Bench.sentence("A FRAME is; A COMMAND is RIGHT if it is; A move is POSSIBLE if");
        GrammarTest test = new GrammarTest();
        for (int i = 0; i < TEXTS; i++) {
            test.compareOne();
        }
        Bench.end();
    }

    private void compareOne() {
        StringBuilder words = new StringBuilder(SEEDS[random.nextInt(SEEDS.length)]);
        spoil(words, random.nextInt(4));
        String sum = String.format("%0" + (1 + random.nextInt(3)) + "d", Bench.sum("" + words));
        StringBuilder text = new StringBuilder(words).append('*').append(sum);
        spoil(text, random.nextInt(8) == 0 ? 1 : 0);
        String whole = text.toString();
        Bench.due("<" + whole + ">", Bench.receive(new LayerFeeder(100), whole), answerTo(whole));
    }

    private void spoil(StringBuilder text, int times) {
        for (int i = 0; i < times && text.length() > 0; i++) {
            int at = random.nextInt(text.length());
            char c = CHARACTERS.charAt(random.nextInt(CHARACTERS.length()));
            switch (random.nextInt(3)) {
                case 0:
                    text.insert(at, c);
                    break;
                case 1:
                    text.deleteCharAt(at);
                    break;
                default:
                    text.setCharAt(at, c);
                    break;
            }
        }
    }

    private static int answerTo(String text) {
        Matcher frame = FRAME.matcher(text);
        if (!frame.matches() || Integer.parseInt(frame.group(1)) != 0
            || Integer.parseInt(frame.group(3)) != Bench.sum(text.substring(0, text.indexOf('*')))) {
            return LayerFeeder.REPEAT;
        }
        return isRightAndPossible(plain(frame.group(2))) ? 0 : LayerFeeder.WRONG;
    }

    /** The words with a blank before each, without zeros in front and without -0. */
    private static String plain(String words) {
        StringBuilder plain = new StringBuilder();
        Matcher word = Pattern.compile("([A-Z])(-?\\d+)").matcher(words);
        while (word.find()) {
            plain.append(' ').append(word.group(1)).append(Integer.parseInt(word.group(2)));
        }
        return plain.toString();
    }

    private static boolean isRightAndPossible(String command) {
        String none = "(?!.* (.)\\S+ .*\\b\\1)";
        String size500 = "(\\d{1,2}|[1-4]\\d\\d|500)";
        String table = " [XY]" + size500;
        String feed = " E-?" + size500;
        String speed = " F([1-9]\\d{0,2}|1000)";
        return command.matches(" G9[01]")
            || command.matches(" G4 P([1-9]\\d?|1\\d\\d|200)")
            || command.matches(" G92" + none + "( [XYE]-?\\d+)*")
            || command.matches(" G1" + none + "(" + table + "|" + feed + "|" + speed + ")*");
    }
}
