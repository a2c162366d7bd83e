import java.util.ArrayList;
import java.util.List;
import java.util.Random;

/** Promises 4 and 5 on texts made at random and then spoiled, against the document's own rules. */
public final class GrammarTest {
    private static final String[] WORDS = ("param input index let loss out block give repeat train below bits rate until"
            + " momentum decay clip + - * @ / ( ) [ ] { } , ; = . ~ name x 1 2.5").split(" ");

    private final Grammar grammar = new Grammar();
    private final Random random = new Random(512);
    private final NetText used = new NetText();

    private GrammarTest() {
    }

    public static void main(String[] args) {
        GrammarTest test = new GrammarTest();
        test.spoiledTexts(6000);
        test.everyNextWord(60);
        Due.finish();
    }

    private List<String> goodWords(int most) {
        TextMaker maker = new TextMaker(random, 3);
        maker.makeText();
        return maker.words.size() <= most ? maker.words : goodWords(most);
    }

    private void spoiledTexts(int texts) {
        for (int i = 0; i < texts; i++) {
            List<String> words = new ArrayList<>(goodWords(90));
            for (int times = random.nextInt(3); times > 0; times--) {
                spoil(words);
            }
            compare(words);
        }
    }

    private void spoil(List<String> words) {
        int at = random.nextInt(words.size());
        int choice = random.nextInt(4);
        if (choice == 0 && words.size() > 1) {
            words.remove(at);
        } else if (choice == 1) {
            words.add(at, WORDS[random.nextInt(WORDS.length)]);
        } else if (choice == 2) {
            words.set(at, WORDS[random.nextInt(WORDS.length)]);
        } else {
            words.add(at, words.get(random.nextInt(words.size())));
        }
    }

    /** Behind each beginning of a good text, each of all words. */
    private void everyNextWord(int texts) {
        for (int i = 0; i < texts; i++) {
            List<String> words = goodWords(40);
            for (int length = 0; length < words.size(); length++) {
                for (String next : WORDS) {
                    List<String> row = new ArrayList<>(words.subList(0, length));
                    row.add(next);
                    compare(row);
                }
            }
        }
    }

    private void compare(List<String> words) {
        int wrong = grammar.firstWrong(words);
        String text = String.join(" ", words);
        int answer = Due.read(used, text);
        if (wrong == NetText.NONE) {
            Due.same("read() is a fault: of " + text, answer < 0 ? 1 : 0, 0);
            Due.same("place() behind " + text, used.place(), NetText.NONE);
        } else {
            int place = wrong == words.size() ? text.length() : placeOf(words, wrong);
            Due.same("read() of " + text, answer, -98);
            Due.same("place() behind " + text, used.place(), place);
        }
    }

    private static int placeOf(List<String> words, int number) {
        int place = 0;
        for (int i = 0; i < number; i++) {
            place += words.get(i).length() + 1;
        }
        return place;
    }
}
