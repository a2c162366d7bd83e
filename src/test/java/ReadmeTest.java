import java.io.IOException;
import java.nio.file.Files;
import java.nio.file.Path;
import java.util.ArrayList;
import java.util.List;

/** README.md: each line of its code stands in this file too, and the answers are those that it tells. */
public final class ReadmeTest {
    private static final String[] KINDS = ("train input index loss out block param let repeat fraction shape whole terms factors"
            + " side name number sum product negative call give").split(" ");

    private ReadmeTest() {
    }

    public static void main(String[] args) throws IOException {
        List<String> readme = Files.readAllLines(Path.of("README.md"));
        theCodeIsThis(readme, Files.readAllLines(Path.of("src/test/java/ReadmeTest.java")));
        theTableIsTrue(readme);
        theFaultsAreTrue();
        Due.finish();
    }

    private static void theCodeIsThis(List<String> readme, List<String> own) {
        List<String> lines = new ArrayList<>();
        for (String line : own) {
            lines.add(line.strip());
        }
        int looked = 0;
        boolean inCode = false;
        for (String line : readme) {
            if (line.startsWith("```")) {
                inCode = line.equals("```java");
            } else if (inCode) {
                looked++;
                Due.same("this file has the line " + line, lines.contains(line.strip()) ? 1 : 0, 1);
            }
        }
        Due.same("README.md has code", looked > 20 ? 1 : 0, 1);
    }

    static int readText(NetText x, String text) {
        for (int i = 0; i < text.length(); i += 20) {
            x.feed(four(text, i), four(text, i + 4), four(text, i + 8), four(text, i + 12), four(text, i + 16));
        }
        x.end(text.length());
        return x.read();
    }

    static int four(String text, int from) {
        int four = 0;
        for (int i = from; i < from + 4; i++) {
            four = four << 8 | (i < text.length() ? text.charAt(i) & 255 : ' ');
        }
        return four;
    }

    private static void theTableIsTrue(List<String> readme) {
        List<String> due = new ArrayList<>();
        for (String line : readme) {
            if (line.matches("\\| \\d+ \\|.*")) {
                due.add(line);
            }
        }
        NetText x = new NetText();
        int nodes = readText(x, "train bits 8 rate -1/2; let y = 2.5*(a + f(b; w.0)); out y;");
        for (int n = 0; n < nodes; n++) {
            System.out.println(n + " is of kind " + x.kind(n) + ", in " + x.parent(n));
        }
        Due.same("rows of README.md's table", due.size(), nodes);
        for (int n = 0; n < nodes && n < due.size(); n++) {
            String row = row(x, n);
            Due.same("README.md has " + due.get(n) + " for " + row + ": that", row.equals(due.get(n)) ? 1 : 0, 1);
        }
    }

    private static String row(NetText x, int n) {
        StringBuilder name = new StringBuilder();
        for (int k = 0; k < x.nameLength(n); k++) {
            name.append((char) x.nameAt(n, k));
        }
        String sign = x.sign(n) == 0 ? "0" : "'" + (char) x.sign(n) + "'";
        return "| " + n + " | " + x.kind(n) + " " + KINDS[x.kind(n)] + " | " + x.begin(n) + " | " + x.parent(n)
                + " | " + sign + " | " + name + " | " + x.digits(n) + " | " + x.behind(n) + " | " + x.depth(n) + " |";
    }

    private static void theFaultsAreTrue() {
        NetText x = new NetText();
        int fault = readText(x, "train bits 8 rate 1; out 2x;"); // -99: no word, or one that is too long
        int where = x.place();                                   // 25, where 2x begins
        Due.same("the first fault", fault, -99);
        Due.same("its place", where, 25);
        fault = readText(x, "train bits 8 rate 1; out x");       // -98: the word, or the tape's end, can't come there
        where = x.place();                                       // 26, the tape's end
        Due.same("the second fault", fault, -98);
        Due.same("its place", where, 26);
    }
}
