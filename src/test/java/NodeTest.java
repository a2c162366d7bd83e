/** Promises 6 to 14: every answer about every node of some texts, written out by hand. */
public final class NodeTest {
    private static final String TRAIN = "train bits 8 rate 1;";

    private NodeTest() {
    }

    public static void main(String[] args) {
        trainAndFractions();
        itemsAndParents();
        blocks();
        wholesAndSides();
        sums();
        bracketsBeginInside();
        negatives();
        calls();
        numbers();
        names();
        noSuchNode();
        manyNodes();
        Due.finish();
    }

    /**
     * Each row tells a node: kind, begin, parent, sign, name (- for none), digits, behind, depth.
     */
    private static NetText nodes(String text, String... rows) {
        NetText x = new NetText();
        Due.good(x, text, rows.length);
        for (int n = 0; n < rows.length; n++) {
            String[] due = rows[n].trim().split(" +");
            node(x, n, due, text);
        }
        return x;
    }

    private static void node(NetText x, int node, String[] due, String text) {
        String of = "(" + node + ") of " + text;
        Due.answers("kind" + of, () -> x.kind(node), Long.parseLong(due[0]));
        Due.answers("begin" + of, () -> x.begin(node), Long.parseLong(due[1]));
        Due.answers("parent" + of, () -> x.parent(node), Long.parseLong(due[2]));
        Due.answers("sign" + of, () -> x.sign(node), sign(due[3]));
        name(x, node, due[4], of);
        Due.answers("digits" + of, () -> x.digits(node), Long.parseLong(due[5]));
        Due.answers("behind" + of, () -> x.behind(node), Long.parseLong(due[6]));
        Due.answers("depth" + of, () -> x.depth(node), Long.parseLong(due[7]));
    }

    private static long sign(String due) {
        return due.equals("0") ? 0 : due.charAt(0);
    }

    private static void name(NetText x, int node, String due, String of) {
        int length = due.equals("-") ? NetText.NONE : due.length();
        Due.answers("nameLength" + of, () -> x.nameLength(node), length);
        for (int k = 0; k < length; k++) {
            int at = k;
            Due.answers("nameAt " + k + of, () -> x.nameAt(node, at), due.charAt(k));
        }
        int[] wrong = {-1, Math.max(0, length), length + 2, Integer.MIN_VALUE, Integer.MAX_VALUE};
        for (int k : wrong) {
            Due.refuses("nameAt " + k + of, IndexOutOfBoundsException.class, () -> x.nameAt(node, k));
        }
    }

    private static void trainAndFractions() {
        nodes(" train bits 8 rate -1.5/20 until n rate 0.25 momentum -0 decay 1/3 clip 7;",
                "0   1 -1 0 - -1 -1 -1",
                "11 12  0 0 - -1 -1 -1",
                "16 12  1 0 - 8 0 -1",
                "9  19  0 0 - -1 1 -1",
                "16 20  3 0 - 15 1 -1",
                "16 24  3 0 - 20 0 -1",
                "11 33  0 0 - -1 -1 -1",
                "15 33  6 0 n -1 -1 -1",
                "9  40  0 0 - -1 0 -1",
                "16 40  8 0 - 25 2 -1",
                "9  54  0 0 - -1 1 -1",
                "16 55 10 0 - 0 0 -1",
                "9  63  0 0 - -1 0 -1",
                "16 63 12 0 - 1 0 -1",
                "16 65 12 0 - 3 0 -1",
                "9  72  0 0 - -1 0 -1",
                "16 72 15 0 - 7 0 -1");
    }

    private static void itemsAndParents() {
        nodes(TRAIN + "input a[];index bc[2]below 3;loss 4;out d;param e[]=-5/6;param f[]~7,8;let g=h;repeat 9{let i=1;}",
                "0   0 -1 0 - -1 -1 -1",
                "11 11  0 0 - -1 -1 -1",
                "16 11  1 0 - 8 0 -1",
                "9  18  0 0 - -1 0 -1",
                "16 18  3 0 - 1 0 -1",
                "1  20 -1 0 - -1 -1 -1",
                "15 26  5 0 a -1 -1 -1",
                "10 27  5 0 - -1 -1 -1",
                "2  30 -1 0 - -1 -1 -1",
                "15 36  8 0 bc -1 -1 -1",
                "10 38  8 0 - -1 -1 -1",
                "11 39 10 0 - -1 -1 -1",
                "16 39 11 0 - 2 0 -1",
                "11 47  8 0 - -1 -1 -1",
                "16 47 13 0 - 3 0 -1",
                "3  49 -1 0 - -1 -1 -1",
                "16 54 15 0 - 4 0 -1",
                "4  56 -1 0 - -1 -1 -1",
                "15 60 17 0 d -1 -1 -1",
                "6  62 -1 0 - -1 -1 -1",
                "15 68 19 0 e -1 -1 -1",
                "10 69 19 0 - -1 -1 -1",
                "9  72 19 = - -1 1 -1",
                "16 73 22 0 - 5 0 -1",
                "16 75 22 0 - 6 0 -1",
                "6  77 -1 0 - -1 -1 -1",
                "15 83 25 0 f -1 -1 -1",
                "10 84 25 0 - -1 -1 -1",
                "9  87 25 ~ - -1 0 -1",
                "16 87 28 0 - 7 0 -1",
                "11 89 25 0 - -1 -1 -1",
                "16 89 30 0 - 8 0 -1",
                "7  91 -1 0 - -1 -1 -1",
                "15 95 32 0 g -1 -1 -1",
                "15 97 32 0 h -1 -1 -1",
                "8  99 -1 0 - -1 -1 -1",
                "11 106 35 0 - -1 -1 -1",
                "16 106 36 0 - 9 0 -1",
                "7  108 35 0 - -1 -1 -1",
                "15 112 38 0 i -1 -1 -1",
                "16 114 38 0 - 1 0 -1");
    }

    private static void blocks() {
        nodes("train bits 1 rate 1;block # own name\n dense_2 (x,y;n,m){repeat n{param w[m];}give f(x);}",
                "0   0 -1 0 - -1 -1 -1",
                "11 11  0 0 - -1 -1 -1",
                "16 11  1 0 - 1 0 -1",
                "9  18  0 0 - -1 0 -1",
                "16 18  3 0 - 1 0 -1",
                "5  20 -1 0 dense_2 -1 -1 -1",
                "15 47  5 0 x -1 -1 -1",
                "15 49  5 0 y -1 -1 -1",
                "15 51  5 ; n -1 -1 -1",
                "15 53  5 ; m -1 -1 -1",
                "8  56  5 0 - -1 -1 -1",
                "11 63 10 0 - -1 -1 -1",
                "15 63 11 0 n -1 -1 -1",
                "6  65 10 0 - -1 -1 -1",
                "15 71 13 0 w -1 -1 -1",
                "10 72 13 0 - -1 -1 -1",
                "11 73 15 0 - -1 -1 -1",
                "15 73 16 0 m -1 -1 -1",
                "21 77  5 0 - -1 -1 -1",
                "20 82 18 0 f -1 -1 2",
                "15 84 19 0 x -1 -1 -1");
    }

    private static void wholesAndSides() {
        nodes("train bits (a+b.0)*2-(3)/xy . 1.25 rate 1;",
                "0   0 -1 0 - -1 -1 -1",
                "11 11  0 0 - -1 -1 -1",
                "12 11  1 0 - -1 -1 -1",
                "13 11  2 0 - -1 -1 -1",
                "12 12  3 0 - -1 -1 -1",
                "15 12  4 0 a -1 -1 -1",
                "14 14  4 + b 0 0 -1",
                "16 19  3 * - 2 0 -1",
                "13 21  2 - - -1 -1 -1",
                "16 22  8 0 - 3 0 -1",
                "14 25  8 / xy 125 2 -1",
                "9  40  0 0 - -1 0 -1",
                "16 40 11 0 - 1 0 -1");
    }

    private static void sums() {
        nodes(TRAIN + "loss a-b*c@d/2/3+(e-f)*(g*h)-(i);",
                "0   0 -1 0 - -1 -1 -1",
                "11 11  0 0 - -1 -1 -1",
                "16 11  1 0 - 8 0 -1",
                "9  18  0 0 - -1 0 -1",
                "16 18  3 0 - 1 0 -1",
                "3  20 -1 0 - -1 -1 -1",
                "17 25  5 0 - -1 -1 -1",
                "15 25  6 0 a -1 -1 -1",
                "18 27  6 - - -1 -1 -1",
                "15 27  8 0 b -1 -1 -1",
                "15 29  8 * c -1 -1 -1",
                "15 31  8 @ d -1 -1 -1",
                "16 33  8 / - 2 0 -1",
                "16 35  8 / - 3 0 -1",
                "18 37  6 + - -1 -1 -1",
                "17 38 14 0 - -1 -1 -1",
                "15 38 15 0 e -1 -1 -1",
                "15 40 15 - f -1 -1 -1",
                "18 44 14 * - -1 -1 -1",
                "15 44 18 0 g -1 -1 -1",
                "15 46 18 * h -1 -1 -1",
                "15 50  6 - i -1 -1 -1");
    }

    private static void bracketsBeginInside() {
        nodes(TRAIN + "out (((a)*b)+((c+d)));",
                "0   0 -1 0 - -1 -1 -1",
                "11 11  0 0 - -1 -1 -1",
                "16 11  1 0 - 8 0 -1",
                "9  18  0 0 - -1 0 -1",
                "16 18  3 0 - 1 0 -1",
                "4  20 -1 0 - -1 -1 -1",
                "17 25  5 0 - -1 -1 -1",
                "18 26  6 0 - -1 -1 -1",
                "15 27  7 0 a -1 -1 -1",
                "15 30  7 * b -1 -1 -1",
                "17 35  6 + - -1 -1 -1",
                "15 35 10 0 c -1 -1 -1",
                "15 37 10 + d -1 -1 -1");
    }

    private static void negatives() {
        nodes(TRAIN + "out a*-b--(c+d)+--1;",
                "0   0 -1 0 - -1 -1 -1",
                "11 11  0 0 - -1 -1 -1",
                "16 11  1 0 - 8 0 -1",
                "9  18  0 0 - -1 0 -1",
                "16 18  3 0 - 1 0 -1",
                "4  20 -1 0 - -1 -1 -1",
                "17 24  5 0 - -1 -1 -1",
                "18 24  6 0 - -1 -1 -1",
                "15 24  7 0 a -1 -1 -1",
                "19 26  7 * - -1 -1 -1",
                "15 27  9 0 b -1 -1 -1",
                "19 29  6 - - -1 -1 -1",
                "17 31 11 0 - -1 -1 -1",
                "15 31 12 0 c -1 -1 -1",
                "15 33 12 + d -1 -1 -1",
                "19 36  6 + - -1 -1 -1",
                "19 37 15 0 - -1 -1 -1",
                "16 38 16 0 - 1 0 -1");
    }

    private static void calls() {
        nodes(TRAIN + "repeat 1{let a=f(g(),-h([k.0]),2+(h(b));n,1+m)*r();}",
                "0   0 -1 0 - -1 -1 -1",
                "11 11  0 0 - -1 -1 -1",
                "16 11  1 0 - 8 0 -1",
                "9  18  0 0 - -1 0 -1",
                "16 18  3 0 - 1 0 -1",
                "8  20 -1 0 - -1 -1 -1",
                "11 27  5 0 - -1 -1 -1",
                "16 27  6 0 - 1 0 -1",
                "7  29  5 0 - -1 -1 -1",
                "15 33  8 0 a -1 -1 -1",
                "18 35  8 0 - -1 -1 -1",
                "20 35 10 0 f -1 -1 2",
                "20 37 11 0 g -1 -1 3",
                "19 41 11 0 - -1 -1 -1",
                "20 42 13 0 h -1 -1 4",
                "10 44 14 0 - -1 -1 -1",
                "11 45 15 0 - -1 -1 -1",
                "14 45 16 0 k 0 0 -1",
                "17 51 11 0 - -1 -1 -1",
                "16 51 18 0 - 2 0 -1",
                "20 54 18 + h -1 -1 4",
                "15 56 20 0 b -1 -1 -1",
                "11 60 11 ; - -1 -1 -1",
                "15 60 22 0 n -1 -1 -1",
                "11 62 11 ; - -1 -1 -1",
                "12 62 24 0 - -1 -1 -1",
                "16 62 25 0 - 1 0 -1",
                "15 64 25 + m -1 -1 -1",
                "20 67 10 * r -1 -1 2");
        NetText deep = new NetText();
        Due.good(deep, TRAIN + "out " + "f(".repeat(30) + ")".repeat(30) + ";", 36);
        for (int i = 1; i <= 30; i++) {
            Due.same("depth of call " + i, deep.depth(5 + i), i);
            Due.same("parent of call " + i, deep.parent(5 + i), 4 + i);
        }
    }

    private static void numbers() {
        nodes(TRAIN + "out 999999999.999999999;out 000.0100;out 007;",
                "0   0 -1 0 - -1 -1 -1",
                "11 11  0 0 - -1 -1 -1",
                "16 11  1 0 - 8 0 -1",
                "9  18  0 0 - -1 0 -1",
                "16 18  3 0 - 1 0 -1",
                "4  20 -1 0 - -1 -1 -1",
                "16 24  5 0 - 999999999999999999 9 -1",
                "4  44 -1 0 - -1 -1 -1",
                "16 48  7 0 - 100 4 -1",
                "4  57 -1 0 - -1 -1 -1",
                "16 61  9 0 - 7 0 -1");
    }

    private static void names() {
        String forty = "_azAZ09_".repeat(5);
        NetText x = nodes(TRAIN + "out " + forty + ";",
                "0   0 -1 0 - -1 -1 -1",
                "11 11  0 0 - -1 -1 -1",
                "16 11  1 0 - 8 0 -1",
                "9  18  0 0 - -1 0 -1",
                "16 18  3 0 - 1 0 -1",
                "4  20 -1 0 - -1 -1 -1",
                "15 24  5 0 " + forty + " -1 -1 -1");
        Due.refuses("nameAt(7, 0)", IndexOutOfBoundsException.class, () -> x.nameAt(7, 0));
    }

    private static void noSuchNode() {
        NetText x = new NetText();
        int[] none = {0, 1, -1, Integer.MIN_VALUE, Integer.MAX_VALUE};
        for (int n : none) {
            refusesNode(x, n);
        }
        Due.good(x, TRAIN, 5);
        int[] outside = {-1, 5, 6, 511, 512, 65536, Integer.MIN_VALUE, Integer.MAX_VALUE};
        for (int n : outside) {
            refusesNode(x, n);
        }
        Due.fault(x, TRAIN + "out;", 2, 23);
        refusesNode(x, 0);
        refusesNode(x, 4);
        Due.good(x, TRAIN, 5);
        Due.answers("kind(4)", () -> x.kind(4), 16);
        x.feed(0, 0, 0, 0, 0);
        x.end(0);
        Due.answers("kind(4) with an empty tape", () -> x.kind(4), 16);
        x.read();
        refusesNode(x, 4);
    }

    private static void refusesNode(NetText x, int n) {
        Class<IndexOutOfBoundsException> due = IndexOutOfBoundsException.class;
        Due.refuses("kind(" + n + ")", due, () -> x.kind(n));
        Due.refuses("begin(" + n + ")", due, () -> x.begin(n));
        Due.refuses("parent(" + n + ")", due, () -> x.parent(n));
        Due.refuses("sign(" + n + ")", due, () -> x.sign(n));
        Due.refuses("nameLength(" + n + ")", due, () -> x.nameLength(n));
        Due.refuses("nameAt(" + n + ", 0)", due, () -> x.nameAt(n, 0));
        Due.refuses("digits(" + n + ")", due, () -> x.digits(n));
        Due.refuses("behind(" + n + ")", due, () -> x.behind(n));
        Due.refuses("depth(" + n + ")", due, () -> x.depth(n));
    }

    /** As many nodes as words, and as many words as bytes, up to a tape that is full. */
    private static void manyNodes() {
        NetText x = new NetText();
        for (int pieces : new int[] {200, 300, 1000, 5000, 8180}) {
            String text = TRAIN + "input a[" + "1*2+3*4,".repeat(pieces) + "5];";
            Due.good(x, text, 5 + 3 + 8 * pieces + 2);
            int last = 8 * pieces + 9;
            Due.same("kind of the last", x.kind(last), 16);
            Due.same("digits of the last", x.digits(last), 5);
            Due.same("begin of the last", x.begin(last), 28 + 8 * pieces);
            Due.same("parent of the last", x.parent(last), last - 1);
            Due.same("parent of its whole", x.parent(last - 1), 7);
            Due.same("kind of a product inside", x.kind(8 * pieces + 8 - 3), 13);
            Due.same("sign of a product inside", x.sign(8 * pieces + 8 - 3), '+');
        }
    }
}
