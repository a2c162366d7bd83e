import java.util.List;
import java.util.Random;

/** Promises 4 to 14 on texts made at random, always the same ones, whose nodes the maker knows. */
public final class GeneratedTest {
    private GeneratedTest() {
    }

    public static void main(String[] args) {
        Random random = new Random(20261115);
        NetText used = new NetText();
        for (int i = 0; i < 4000; i++) {
            TextMaker maker = new TextMaker(random, i % 31);
            maker.makeText();
            if (maker.text.length() < 1500 || i % 500 == 0 && maker.text.length() < 65000) {
                compare(i % 2 == 0 ? used : new NetText(), maker.text.toString(), maker.nodes);
            }
        }
        Due.finish();
    }

    private static void compare(NetText x, String text, List<TextMaker.Node> nodes) {
        Due.good(x, text, nodes.size());
        for (int n = 0; n < nodes.size() && x.place() == NetText.NONE; n++) {
            node(x, n, nodes.get(n), "(" + n + ") of " + text);
        }
    }

    private static void node(NetText x, int n, TextMaker.Node due, String of) {
        Due.answers("kind" + of, () -> x.kind(n), due.kind);
        Due.answers("begin" + of, () -> x.begin(n), due.begin);
        Due.answers("parent" + of, () -> x.parent(n), due.parent);
        Due.answers("sign" + of, () -> x.sign(n), due.sign);
        Due.answers("nameLength" + of, () -> x.nameLength(n), due.name == null ? -1 : due.name.length());
        for (int k = 0; due.name != null && k < due.name.length(); k++) {
            int at = k;
            Due.answers("nameAt " + k + of, () -> x.nameAt(n, at), due.name.charAt(k));
        }
        Due.answers("digits" + of, () -> x.digits(n), due.digits);
        Due.answers("behind" + of, () -> x.behind(n), due.behind);
        Due.answers("depth" + of, () -> x.depth(n), due.depth);
    }
}
