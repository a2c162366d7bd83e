import java.nio.charset.StandardCharsets;
import java.util.ArrayList;
import java.util.List;
import java.util.Random;
import java.util.regex.Matcher;
import java.util.regex.Pattern;

/**
 * Promises 4 and 5 on good texts that are spoiled byte by byte, or made too deep: words by patterns,
 * their order by the document's own rules, the depth by a stack. None of it is the program's way.
 */
public final class SpoiledTest {
    private static final Pattern BLANKS = Pattern.compile("(?:[\\t\\n\\r ]|#[^\\n]*)*+");
    private static final Pattern WORD = Pattern.compile("[A-Za-z_][A-Za-z0-9_]{0,39}(?![A-Za-z0-9_])"
            + "|[0-9]{1,9}(?:\\.[0-9]{1,9})?(?![A-Za-z0-9_.])"
            + "|[-+*@/()\\[\\]{},;=.~]");
    private static final String BYTES = "+-*@/()[]{},;=.~ \n\t\r#_aZ09.-(!\u0000\u000b\u007f\u0080\u00e9\u00ff";
    private static final int DEEPEST = 30;

    private final Grammar grammar = new Grammar();
    private final Random random = new Random(65536);
    private final NetText used = new NetText();
    // How many texts had no fault, fault 1, fault 2: a comparison of nothing but faults would tell little.
    private final int[] found = new int[3];
    private int tooDeep = 0;

    private SpoiledTest() {
    }

    public static void main(String[] args) {
        SpoiledTest test = new SpoiledTest();
        test.spoiledBytes(4000);
        test.deepTexts(1500);
        Due.finish();
    }

    private String goodText(int most) {
        TextMaker maker = new TextMaker(random, 3);
        maker.makeText();
        return maker.words.size() <= most ? maker.text.toString() : goodText(most);
    }

    private void spoiledBytes(int texts) {
        for (int i = 0; i < texts; i++) {
            StringBuilder text = new StringBuilder(goodText(60));
            for (int times = random.nextInt(4); times > 0; times--) {
                spoil(text);
            }
            compare(text.toString());
        }
        enough("good texts", found[0], texts / 10);
        enough("texts with fault 1", found[1], texts / 10);
        enough("texts with fault 2", found[2], texts / 10);
    }

    private void spoil(StringBuilder text) {
        int at = random.nextInt(text.length());
        char any = BYTES.charAt(random.nextInt(BYTES.length()));
        switch (random.nextInt(6)) {
            case 0 -> text.setLength(at + 1);
            case 1 -> text.insert(at, any);
            case 2 -> text.setCharAt(at, any);
            case 3 -> text.insert(at, text.substring(at, Math.min(text.length(), at + 1 + random.nextInt(8))));
            // Many of one byte make names and numbers that are just short enough, or just too long.
            case 4 -> text.insert(at, String.valueOf(text.charAt(at)).repeat(7 + random.nextInt(35)));
            default -> text.deleteCharAt(at);
        }
        if (text.length() == 0) {
            text.append(any);
        }
    }

    /** Good texts with one item more, a piece of which stands so deep that it is sometimes too deep. */
    private void deepTexts(int texts) {
        String[] sums = {"let d = %;", "out 2*%-a;", "loss -%;", "block b(x) { let d = a@%; give -x; }", "block b(;x) { give %; }",
            "repeat 2 { repeat 3 { let d = -(%); } }", "let d = f([1], -%; 3);"};
        String[] wholes = {"param w [1, %] = -2;", "index i [x.0] below (%)*2;", "param w [] ~ -2/3, 2-%;",
            "repeat (%) { repeat % { param w [%]; } }", "let d = -f(a; %);"};
        int goodBefore = found[0];
        for (int i = 0; i < texts; i++) {
            boolean inWhole = random.nextInt(3) == 0;
            String[] items = inWhole ? wholes : sums;
            String item = items[random.nextInt(items.length)].replace("%", deepPiece(inWhole));
            compare(goodText(30) + "\n" + item + " out x;");
        }
        enough("good deep texts", found[0] - goodBefore, texts / 10);
        enough("texts that are too deep", tooDeep, texts / 10);
    }

    private String deepPiece(boolean inWhole) {
        StringBuilder piece = new StringBuilder(inWhole ? "x.1" : "f(;1)");
        for (int depth = 25 + random.nextInt(6); depth > 0; depth--) {
            wrap(piece, inWhole ? 0 : random.nextInt(8));
        }
        return piece.toString();
    }

    private static void wrap(StringBuilder piece, int choice) {
        switch (choice) {
            case 1 -> piece.insert(0, "f(x, ").append(")");
            case 2 -> piece.insert(0, "f(-x, [2], ").append(", -y*2; 3)");
            case 3, 4 -> piece.insert(0, "-");
            case 5 -> piece.insert(0, "(--1 + ").append(" - -(1))");
            default -> piece.insert(0, "(").append(")");
        }
    }

    /** Answers the place where no word is, or the text's length. */
    private static int cut(String text, List<String> words, List<Integer> places) {
        int at = afterBlanks(text, 0);
        Matcher word = WORD.matcher(text).useTransparentBounds(true);
        while (at < text.length() && word.region(at, text.length()).lookingAt()) {
            words.add(word.group());
            places.add(at);
            at = afterBlanks(text, word.end());
        }
        return at;
    }

    private static int afterBlanks(String text, int from) {
        Matcher blanks = BLANKS.matcher(text).region(from, text.length());
        return blanks.lookingAt() ? blanks.end() : from;
    }

    private void compare(String text) {
        List<String> words = new ArrayList<>();
        List<Integer> places = new ArrayList<>();
        int end = cut(text, words, places);
        int wrong = grammar.firstWrong(words);
        int right = wrong == NetText.NONE ? words.size() : wrong;
        int deep = firstTooDeep(words.subList(0, right));
        if (deep < right) {
            tooDeep++;
            faultDue(text, 2, places.get(deep));
        } else if (right < words.size()) {
            faultDue(text, 2, places.get(right));
        } else if (end < text.length()) {
            faultDue(text, 1, end);
        } else if (wrong != NetText.NONE) {
            faultDue(text, 2, end);
        } else {
            found[0]++;
            Due.same("read() is a fault: of " + shown(text), Due.read(used, text) < 0 ? 1 : 0, 0);
            Due.same("place() behind " + shown(text), used.place(), NetText.NONE);
        }
    }

    private void faultDue(String text, int number, int place) {
        found[number]++;
        Due.same("read() of " + shown(text), Due.read(used, text), number - 100);
        Due.same("place() behind " + shown(text), used.place(), place);
    }

    private static String shown(String text) {
        return new String(text.getBytes(StandardCharsets.ISO_8859_1), StandardCharsets.US_ASCII);
    }

    /** Of words that can come one behind another: the first that makes the depth 31; how many there are if none does. */
    private static int firstTooDeep(List<String> words) {
        StringBuilder open = new StringBuilder();
        for (int i = 0; i < words.size(); i++) {
            String word = words.get(i);
            if ("([{".contains(word) || word.equals("-") && isNegative(words, i)) {
                open.append(word);
            } else if (")]}".contains(word)) {
                open.setLength(open.length() - 1);
            }
            boolean called = i + 1 < words.size() && words.get(i + 1).equals("(");
            if (word.equals(")") || word.matches("\\w.*") && !called) {
                endNegatives(open);
            }
            if (open.length() > DEEPEST) {
                return i;
            }
        }
        return words.size();
    }

    /** A factor has ended, and with it each negative that it is the factor of. */
    private static void endNegatives(StringBuilder open) {
        while (open.length() > 0 && open.charAt(open.length() - 1) == '-') {
            open.setLength(open.length() - 1);
        }
    }

    /** A - is else one between two pieces, or a fraction's. */
    private static boolean isNegative(List<String> words, int at) {
        String before = words.get(at - 1);
        boolean ofParam = before.equals("=") && words.get(at - 2).equals("]");
        return !ofParam && List.of("=", "(", ",", "+", "-", "*", "@", "loss", "out", "give").contains(before);
    }

    private static void enough(String texts, int many, int least) {
        Due.same("there are enough " + texts + ": " + many, many >= least ? 1 : 0, 1);
    }
}
