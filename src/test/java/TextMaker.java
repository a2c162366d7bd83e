import java.util.ArrayList;
import java.util.List;
import java.util.Random;

/**
 * Makes good texts at random, each together with what is due of its nodes. It knows each node before
 * it writes a word of it, so that it shares no way of working with the program.
 */
final class TextMaker {
    static final class Node {
        int kind;
        int begin;
        int parent;
        int sign;
        String name;
        long digits = -1;
        int behind = -1;
        int depth = -1;
    }

    private static final String[] BLANKS = {" ", "\n", "\t", "\r", "  ", " # let ( x\n", "#\n", " \n#1x!\n\t"};
    private static final String[] NAMES = {"x", "y", "relu", "_", "lets", "Train", "a_long_name_of_forty_bytes_0123456789_zz"};

    final StringBuilder text = new StringBuilder();
    final List<String> words = new ArrayList<>();
    final List<Node> nodes = new ArrayList<>();
    private final Random random;
    private final int depthLimit;
    private int depth = 0;

    TextMaker(Random random, int depthLimit) {
        this.random = random;
        this.depthLimit = depthLimit;
    }

    private boolean chance(int percent) {
        return random.nextInt(100) < percent;
    }

    private boolean deepEnough(int more) {
        return depth + more > depthLimit;
    }

    private void blanks(String next) {
        boolean needed = text.length() > 0 && sticks(text.charAt(text.length() - 1)) && sticks(next.charAt(0));
        for (int i = chance(30) ? 1 : 0; needed || i > 0; i--) {
            text.append(BLANKS[random.nextInt(BLANKS.length)]);
            needed = false;
        }
    }

    private static boolean sticks(char c) {
        return Character.isLetterOrDigit(c) || c == '_';
    }

    private void word(String word) {
        blanks(word);
        text.append(word);
        words.add(word);
    }

    private int node(int kind, int parent, int sign, String firstWord) {
        blanks(firstWord);
        return nodeHere(kind, parent, sign);
    }

    private int nodeHere(int kind, int parent, int sign) {
        Node node = new Node();
        node.kind = kind;
        node.begin = text.length();
        node.parent = parent;
        node.sign = sign;
        nodes.add(node);
        return nodes.size() - 1;
    }

    /** Placed: the blanks before its first word are written already, as a node that it begins has it too. */
    private int pieceNode(int kind, int parent, int sign, boolean placed, String first) {
        return placed ? nodeHere(kind, parent, sign) : node(kind, parent, sign, first);
    }

    /** A word whose blanks are written already. */
    private void bare(String word) {
        text.append(word);
        words.add(word);
    }

    private String anyName() {
        return NAMES[random.nextInt(NAMES.length)];
    }

    void makeText() {
        train();
        for (int i = random.nextInt(6); i > 0; i--) {
            item();
        }
        if (chance(50)) {
            text.append(BLANKS[random.nextInt(BLANKS.length)]);
        }
    }

    private void train() {
        int n = node(0, -1, 0, "train");
        bare("train");
        word("bits");
        whole(n, 0);
        word("rate");
        fraction(n, 0);
        for (int i = random.nextInt(3); i > 0; i--) {
            word("until");
            whole(n, 0);
            word("rate");
            fraction(n, 0);
        }
        for (String more : new String[] {"momentum", "decay", "clip"}) {
            if (chance(40)) {
                word(more);
                fraction(n, 0);
            }
        }
        word(";");
    }

    private void item() {
        int choice = random.nextInt(6);
        if (choice == 0) {
            int n = node(1, -1, 0, "input");
            bare("input");
            name(n, 0);
            shape(n);
            word(";");
        } else if (choice == 1) {
            int n = node(2, -1, 0, "index");
            bare("index");
            name(n, 0);
            shape(n);
            word("below");
            whole(n, 0);
            word(";");
        } else if (choice == 2) {
            block();
        } else if (choice == 3) {
            sumItem(3, "loss", -1);
        } else if (choice == 4) {
            sumItem(4, "out", -1);
        } else {
            statement(-1);
        }
    }

    private void sumItem(int kind, String word, int parent) {
        int n = node(kind, parent, 0, word);
        bare(word);
        sum(n, 0, false, false);
        word(";");
    }

    private void block() {
        int n = node(5, -1, 0, "block");
        bare("block");
        String own = anyName();
        nodes.get(n).name = own;
        word(own);
        word("(");
        if (chance(70)) {
            names(n, 0);
        }
        if (chance(50)) {
            word(";");
            names(n, ';');
        }
        word(")");
        word("{");
        depth++;
        statements(n);
        sumItem(21, "give", n);
        depth--;
        word("}");
    }

    private void names(int parent, int sign) {
        name(parent, sign);
        while (chance(40)) {
            word(",");
            name(parent, sign);
        }
    }

    private void statements(int parent) {
        for (int i = random.nextInt(3); i > 0; i--) {
            statement(parent);
        }
    }

    private void statement(int parent) {
        int choice = random.nextInt(3);
        if (choice == 0 && !deepEnough(2)) {
            int n = node(8, parent, 0, "repeat");
            bare("repeat");
            whole(n, 0);
            word("{");
            depth++;
            statements(n);
            depth--;
            word("}");
        } else if (choice == 1 && !deepEnough(1)) {
            param(parent);
        } else {
            int n = node(7, parent, 0, "let");
            bare("let");
            name(n, 0);
            word("=");
            sum(n, 0, false, false);
            word(";");
        }
    }

    private void param(int parent) {
        int n = node(6, parent, 0, "param");
        bare("param");
        name(n, 0);
        shape(n);
        int choice = random.nextInt(3);
        if (choice == 1) {
            word("=");
            fraction(n, '=');
        } else if (choice == 2) {
            word("~");
            fraction(n, '~');
            word(",");
            whole(n, 0);
        }
        word(";");
    }

    private void name(int parent, int sign) {
        String name = anyName();
        int n = node(15, parent, sign, name);
        nodes.get(n).name = name;
        bare(name);
    }

    private String numberFor(Node node) {
        String before = Integer.toString(random.nextInt(chance(80) ? 100 : 1000000000));
        String behind = chance(70) ? "" : "" + (100000000 + random.nextInt(900000000));
        behind = behind.substring(0, behind.isEmpty() ? 0 : 1 + random.nextInt(9));
        node.digits = Long.parseLong(before + behind);
        node.behind = behind.length();
        return behind.isEmpty() ? before : before + "." + behind;
    }

    private void number(int parent, int sign, boolean placed) {
        bare(numberFor(nodes.get(pieceNode(16, parent, sign, placed, "0"))));
    }

    private void fraction(int parent, int sign) {
        boolean minus = chance(40);
        int n = node(9, parent, sign, minus ? "-" : "0");
        nodes.get(n).behind = minus ? 1 : 0;
        if (minus) {
            bare("-");
        }
        number(n, 0, !minus);
        if (chance(50)) {
            word("/");
            number(n, 0, false);
        }
    }

    private void shape(int parent) {
        int n = node(10, parent, 0, "[");
        bare("[");
        depth++;
        if (chance(80)) {
            wholes(n, 0);
        }
        depth--;
        word("]");
    }

    private void wholes(int parent, int sign) {
        whole(parent, sign);
        while (chance(40)) {
            word(",");
            whole(parent, sign);
        }
    }

    /** Its first word is not known yet, but any name or number sticks where it must not. */
    private void whole(int parent, int sign) {
        int n = node(11, parent, sign, "0");
        sum(n, 0, true, true);
    }

    private int rowLength() {
        return chance(65) ? 1 : 2 + random.nextInt(3);
    }

    private void sum(int parent, int sign, boolean inWhole, boolean placed) {
        int length = rowLength();
        int n = parent;
        if (length > 1) {
            n = pieceNode(inWhole ? 12 : 17, parent, sign, placed, "0");
        }
        product(n, length > 1 ? 0 : sign, inWhole, placed || length > 1);
        for (int i = 1; i < length; i++) {
            String before = chance(50) ? "+" : "-";
            word(before);
            product(n, before.charAt(0), inWhole, false);
        }
    }

    private void product(int parent, int sign, boolean inWhole, boolean placed) {
        int length = rowLength();
        int n = parent;
        if (length > 1) {
            n = pieceNode(inWhole ? 13 : 18, parent, sign, placed, "0");
        }
        piece(n, length > 1 ? 0 : sign, inWhole, placed || length > 1);
        for (int i = 1; i < length; i++) {
            String before = inWhole ? "*/".substring(random.nextInt(2)).substring(0, 1)
                    : "*@/".substring(random.nextInt(3)).substring(0, 1);
            word(before);
            if (!inWhole && before.equals("/")) {
                number(n, '/', false);
            } else {
                piece(n, before.charAt(0), inWhole, false);
            }
        }
    }

    private void piece(int parent, int sign, boolean inWhole, boolean placed) {
        int choice = deepEnough(1) ? random.nextInt(2) : random.nextInt(inWhole ? 4 : 6);
        if (choice == 0) {
            number(parent, sign, placed);
        } else if (choice == 1) {
            int n = pieceNode(15, parent, sign, placed, "a");
            nodes.get(n).name = anyName();
            bare(nodes.get(n).name);
        } else if (choice == 2) {
            if (placed) {
                bare("(");
            } else {
                word("(");
            }
            depth++;
            sum(parent, sign, inWhole, false);
            depth--;
            word(")");
        } else if (inWhole) {
            side(pieceNode(14, parent, sign, placed, "a"));
        } else if (choice == 3) {
            int n = pieceNode(19, parent, sign, placed, "-");
            bare("-");
            depth++;
            piece(n, 0, false, false);
            depth--;
        } else {
            call(pieceNode(20, parent, sign, placed, "a"));
        }
    }

    private void side(int n) {
        nodes.get(n).name = anyName();
        bare(nodes.get(n).name);
        word(".");
        word(numberFor(nodes.get(n)));
    }

    private void call(int n) {
        nodes.get(n).name = anyName();
        bare(nodes.get(n).name);
        word("(");
        depth++;
        nodes.get(n).depth = depth;
        for (int i = random.nextInt(3); i > 0; i--) {
            if (chance(25) && !deepEnough(1)) {
                shape(n);
            } else {
                sum(n, 0, false, false);
            }
            if (i > 1) {
                word(",");
            }
        }
        if (chance(40)) {
            word(";");
            wholes(n, ';');
        }
        depth--;
        word(")");
    }
}
