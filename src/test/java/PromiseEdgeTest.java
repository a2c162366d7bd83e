/**
 * The boundaries that the document names in its promises 1 to 14. Each method looks at the one sentence
 * that stands above it: the last value that is allowed, the first one that is not, and what is thrown then.
 */
public final class PromiseEdgeTest {
    private static final String TRAIN = "train bits 8 rate 1;";
    private static final int TRAIN_NODES = 5;
    private static final Class<IndexOutOfBoundsException> NO_INDEX = IndexOutOfBoundsException.class;
    private static final Class<IllegalArgumentException> NO_ARGUMENT = IllegalArgumentException.class;
    private static final Class<IllegalStateException> NO_STATE = IllegalStateException.class;
    /** Has nodes of every kind. */
    private static final String EVERY_KIND = TRAIN + "input a[];index i[]below 2;loss a;out a;block b(c;d){give 1;}"
            + "param w[n.0]=-1/2;let e=-f(a)+a*2.5;repeat 2*3+1{}";

    private PromiseEdgeTest() {
    }

    public static void main(String[] args) {
        newTapeIsEmpty();
        newHasNoNodes();
        feedTellsHowMany();
        feedOrderOfBytes();
        feedTakesAnyByte();
        feedRefusesMoreThan65536();
        feedRefusedChangesNothing();
        endKeepsTheFirst();
        endRefusesMoreThanThereAre();
        endRefusesBelowZero();
        endRefusedChangesNothing();
        readEmptiesTheTape();
        readTellsHowManyNodes();
        readTellsTheFault();
        readLeavesNoNodesBehindAFault();
        placeWithoutRead();
        placeWithoutFault();
        placeOfTheLatestRead();
        noSuchNodeBeforeARead();
        noSuchNodeBehindTheLast();
        noSuchNodeBelowZero();
        noSuchNodeBehindAFault();
        noSuchNodeOfAnEarlierText();
        kinds();
        beginOfFirstWords();
        beginInBrackets();
        parentNone();
        signFirstOfARow();
        signInBrackets();
        signOfFractions();
        signBehindSemicolon();
        signElse();
        nameLengths();
        nameLengthNone();
        nameAtEdges();
        nameAtOfNoName();
        digitsEdges();
        digitsNone();
        behindEdges();
        behindOfFractions();
        behindNone();
        depthEdges();
        depthNone();
        Due.finish();
    }

    private static long end(NetText x, int n) {
        x.end(n);
        return 0;
    }

    /** How many bytes the tape has, told without changing it: those, and not one more, may be kept. */
    private static void tapeHas(NetText x, int bytes, String when) {
        Due.refuses("end(" + (bytes + 1) + ") " + when, NO_ARGUMENT, () -> end(x, bytes + 1));
        Due.answers("end(" + bytes + ") " + when, () -> end(x, bytes), 0);
    }

    private static NetText readOf(String text) {
        NetText x = new NetText();
        Due.same("read() is a fault, of " + text, Math.min(0, Due.read(x, text)), 0);
        return x;
    }

    private static NetText items(String items) {
        return readOf(TRAIN + items);
    }

    /** Every call that asks for a node. */
    private static void noNode(NetText x, int n, String when) {
        String of = "(" + n + ") " + when;
        Due.refuses("kind" + of, NO_INDEX, () -> x.kind(n));
        Due.refuses("begin" + of, NO_INDEX, () -> x.begin(n));
        Due.refuses("parent" + of, NO_INDEX, () -> x.parent(n));
        Due.refuses("sign" + of, NO_INDEX, () -> x.sign(n));
        Due.refuses("nameLength" + of, NO_INDEX, () -> x.nameLength(n));
        Due.refuses("nameAt 0" + of, NO_INDEX, () -> x.nameAt(n, 0));
        Due.refuses("digits" + of, NO_INDEX, () -> x.digits(n));
        Due.refuses("behind" + of, NO_INDEX, () -> x.behind(n));
        Due.refuses("depth" + of, NO_INDEX, () -> x.depth(n));
    }

    /** The same calls but nameAt, none of which may be refused. */
    private static void isNode(NetText x, int n, int kind, String when) {
        String of = "(" + n + ") " + when;
        Due.answers("kind" + of, () -> x.kind(n), kind);
        Due.answers("begin" + of, () -> Math.min(0, x.begin(n)), 0);
        Due.answers("parent" + of, () -> x.parent(n) < n ? 0 : 1, 0);
        Due.answers("sign" + of, () -> Math.min(0, x.sign(n)), 0);
        Due.answers("nameLength" + of, () -> Math.min(-1, x.nameLength(n)), -1);
        Due.answers("digits" + of, () -> Math.min(-1, x.digits(n)), -1);
        Due.answers("behind" + of, () -> Math.min(-1, x.behind(n)), -1);
        Due.answers("depth" + of, () -> Math.min(-1, x.depth(n)), -1);
    }

    /** 1: "An empty tape, ..". */
    private static void newTapeIsEmpty() {
        tapeHas(new NetText(), 0, "of a new object");
        Due.same("the first feed of a new object", new NetText().feed(-1, -1, -1, -1, -1), 20);
        NetText x = new NetText();
        Due.same("read() of a new object", x.read(), -98);
        Due.same("place() behind it", x.place(), 0);
    }

    /** 1: ".. no nodes." */
    private static void newHasNoNodes() {
        NetText x = new NetText();
        noNode(x, 0, "of a new object");
        noNode(x, -1, "of a new object");
        x.feed(0x74726169, 0x6e206269, 0x74732038, 0x20726174, 0x6520313b);
        noNode(x, 0, "of a new object that is fed");
        x.read();
        isNode(x, 0, 0, "behind its first read()");
        // Objects share nothing.
        noNode(new NetText(), 0, "of a new object behind another's read()");
    }

    /** 2: "Twenty bytes more on the tape, ..: how many it has." */
    private static void feedTellsHowMany() {
        NetText x = new NetText();
        Due.same("feed 1", x.feed(0, 0, 0, 0, 0), 20);
        Due.same("feed 2", x.feed(0, 0, 0, 0, 0), 40);
        tapeHas(x, 40, "behind two feeds");
        x.end(39);
        Due.same("feed behind end(39)", x.feed(0, 0, 0, 0, 0), 59);
        x.end(1);
        Due.same("feed behind end(1)", x.feed(0, 0, 0, 0, 0), 21);
        x.end(0);
        Due.same("feed behind end(0)", x.feed(0, 0, 0, 0, 0), 20);
        x.read();
        Due.same("feed behind read()", x.feed(0, 0, 0, 0, 0), 20);
    }

    /** 2: "those of a first, the highest byte of each first". */
    private static void feedOrderOfBytes() {
        NetText x = new NetText();
        for (int place = 0; place < 20; place++) {
            int[] five = {0x20202020, 0x20202020, 0x20202020, 0x20202020, 0x20202020};
            five[place / 4] ^= 1 << 8 * (3 - place % 4);
            x.feed(five[0], five[1], five[2], five[3], five[4]);
            Due.same("read() with a wrong byte at " + place, x.read(), -99);
            Due.same("place() of a wrong byte at " + place, x.place(), place);
        }
        Due.feed(x, TRAIN + "out ");
        // "abcd" "efgh" "ijkl" "mnop" "qrs;"
        x.feed(0x61626364, 0x65666768, 0x696a6b6c, 0x6d6e6f70, 0x7172733b);
        Due.same("read() of a name of nineteen", x.read(), TRAIN_NODES + 2);
        for (int k = 0; k < 19; k++) {
            Due.same("nameAt(6, " + k + ")", x.nameAt(6, k), 'a' + k);
        }
    }

    /** 2: a byte is what it is in every place, also where it makes its number negative. */
    private static void feedTakesAnyByte() {
        NetText x = new NetText();
        for (int b = 128; b < 256; b++) {
            for (int shift = 0; shift < 32; shift += 8) {
                x.feed(0x20202020, (0x20202020 & ~(255 << shift)) | b << shift, -1, Integer.MIN_VALUE, Integer.MAX_VALUE);
                Due.same("read() with byte " + b, x.read(), -99);
                Due.same("place() of byte " + b, x.place(), 7 - shift / 8);
            }
        }
        // A negative number's high bytes don't spill over the lower ones, in a comment neither.
        x.feed(0x23ffff80, -1, -1, Integer.MIN_VALUE, 0x0a207e7e);
        Due.same("read() of ~ behind a comment", x.read(), -98);
        Due.same("place() of ~ behind a comment", x.place(), 18);
    }

    /** 2: "IllegalStateException: there would be more than 65536." */
    private static void feedRefusesMoreThan65536() {
        NetText x = new NetText();
        Due.feed(x, " ".repeat(65516));
        Due.answers("feed on 65516 bytes", () -> x.feed(0, 0, 0, 0, 0), 65536);
        for (int bytes : new int[] {65536, 65535, 65530, 65520, 65518, 65517}) {
            x.end(bytes);
            Due.refuses("feed on " + bytes + " bytes", NO_STATE, () -> x.feed(0, 0, 0, 0, 0));
        }
        x.end(65516);
        Due.answers("feed on 65516 bytes again", () -> x.feed(0, 0, 0, 0, 0), 65536);
        x.end(65515);
        Due.answers("feed on 65515 bytes", () -> x.feed(0, 0, 0, 0, 0), 65535);
        x.read();
        Due.answers("feed behind the read() of a full tape", () -> x.feed(0, 0, 0, 0, 0), 20);
    }

    /** 2: a refused feed puts nothing on the tape. */
    private static void feedRefusedChangesNothing() {
        NetText x = new NetText();
        Due.good(x, TRAIN, TRAIN_NODES);
        Due.feed(x, TRAIN + " ".repeat(65517 - 20));
        Due.refuses("feed on 65517 bytes", NO_STATE, () -> x.feed(-1, -1, -1, -1, -1));
        isNode(x, 4, 16, "behind a refused feed");
        tapeHas(x, 65517, "behind a refused feed");
        Due.same("read() behind a refused feed", x.read(), TRAIN_NODES);
    }

    /** 3: "The tape keeps its first n bytes." */
    private static void endKeepsTheFirst() {
        String text = TRAIN + "out x;!!!!!!!!!!!!!!";
        for (int n = 0; n <= text.length(); n++) {
            NetText x = new NetText();
            Due.feed(x, text);
            x.end(n);
            tapeHas(x, n, "behind end(" + n + ")");
            int due = n == 20 ? TRAIN_NODES : n == 26 ? TRAIN_NODES + 2 : n > 26 ? -99 : -98;
            Due.same("read() behind end(" + n + ")", x.read(), due);
        }
        // What was cut off does not come back.
        NetText x = new NetText();
        Due.feed(x, TRAIN + "!".repeat(20));
        x.end(20);
        x.feed(0x20202020, 0x20202020, 0x20202020, 0x20202020, 0x20202020);
        Due.same("read() of blanks over what was cut off", x.read(), TRAIN_NODES);
    }

    /** 3: "IllegalArgumentException: it has not so many, ..". */
    private static void endRefusesMoreThanThereAre() {
        NetText x = new NetText();
        tapeHas(x, 0, "of a new object");
        Due.refuses("end(20) of a new object", NO_ARGUMENT, () -> end(x, 20));
        x.feed(0, 0, 0, 0, 0);
        tapeHas(x, 20, "behind a feed");
        Due.refuses("end(512)", NO_ARGUMENT, () -> end(x, 512));
        Due.refuses("end(65536)", NO_ARGUMENT, () -> end(x, 65536));
        Due.refuses("end(65536 + 20)", NO_ARGUMENT, () -> end(x, 65556));
        Due.refuses("end(greatest)", NO_ARGUMENT, () -> end(x, Integer.MAX_VALUE));
        x.end(19);
        tapeHas(x, 19, "behind end(19)");
        Due.refuses("end(20) behind end(19)", NO_ARGUMENT, () -> end(x, 20));
        x.end(0);
        tapeHas(x, 0, "behind end(0)");
        x.feed(0, 0, 0, 0, 0);
        x.read();
        tapeHas(x, 0, "behind read()");
    }

    /** 3: ".. or n is below 0." */
    private static void endRefusesBelowZero() {
        for (NetText x : new NetText[] {new NetText(), items("")}) {
            for (int times = 0; times < 2; times++) {
                Due.answers("end(0)", () -> end(x, 0), 0);
                Due.refuses("end(-1)", NO_ARGUMENT, () -> end(x, -1));
                Due.refuses("end(-20)", NO_ARGUMENT, () -> end(x, -20));
                Due.refuses("end(least)", NO_ARGUMENT, () -> end(x, Integer.MIN_VALUE));
                x.feed(0, 0, 0, 0, 0);
            }
        }
    }

    /** 3: a refused end leaves the tape as it is. */
    private static void endRefusedChangesNothing() {
        NetText x = items("out q;");
        Due.feed(x, TRAIN);
        for (int n : new int[] {21, -1, Integer.MAX_VALUE, Integer.MIN_VALUE}) {
            Due.refuses("end(" + n + ")", NO_ARGUMENT, () -> end(x, n));
            isNode(x, 6, 15, "behind a refused end");
            Due.same("place() behind a refused end", x.place(), -1);
        }
        tapeHas(x, 20, "behind refused ends");
        Due.same("read() behind refused ends", x.read(), TRAIN_NODES);
    }

    /** 4: "Reads the tape, which is empty then". */
    private static void readEmptiesTheTape() {
        NetText x = new NetText();
        for (String text : new String[] {TRAIN, "!", ";", "", TRAIN + "out 1;!"}) {
            Due.read(x, text);
            tapeHas(x, 0, "behind read() of " + text);
            Due.same("feed behind read() of " + text, x.feed(0, 0, 0, 0, 0), 20);
            Due.read(x, text);
            Due.same("read() at once again", x.read(), -98);
            Due.same("place() then", x.place(), 0);
            noNode(x, 0, "behind the read() of an empty tape");
        }
    }

    /** 4: "how many nodes there are". */
    private static void readTellsHowManyNodes() {
        // The least text has five.
        Due.good(new NetText(), TRAIN, 5);
        Due.good(new NetText(), TRAIN + "repeat 1{}", 8);
        NetText x = new NetText();
        String wide = TRAIN + "out 1" + "+1".repeat(5000) + ";";
        Due.good(x, wide, TRAIN_NODES + 1 + 1 + 5001);
        isNode(x, TRAIN_NODES + 5002, 16, "of a long sum");
        noNode(x, TRAIN_NODES + 5003, "of a long sum");
        // The same object, the next text: no node is left of the one before.
        Due.good(x, TRAIN, 5);
    }

    /** 4: "the fault's number less 100, when there is one". */
    private static void readTellsTheFault() {
        NetText x = new NetText();
        Due.same("read() of !", Due.read(x, "!"), 1 - 100);
        Due.same("read() of ;", Due.read(x, ";"), 2 - 100);
        Due.same("read() of nothing", Due.read(x, ""), 2 - 100);
        Due.same("read() of a long name", Due.read(x, "n".repeat(41)), 1 - 100);
        Due.same("read() of a long number", Due.read(x, "1234567890"), 1 - 100);
        Due.same("read() too deep", Due.read(x, TRAIN + "out " + "(".repeat(31)), 2 - 100);
    }

    /** 4: "then there are none." */
    private static void readLeavesNoNodesBehindAFault() {
        NetText x = new NetText();
        for (String wrong : new String[] {"!", ";", "", TRAIN + "out 1; ;", TRAIN + "out 1;!", TRAIN + "out " + "-".repeat(31)}) {
            Due.good(x, TRAIN + "out 1;", TRAIN_NODES + 2);
            isNode(x, 6, 16, "of a good text");
            Due.same("read() of " + wrong, Math.max(-98, Due.read(x, wrong)), -98);
            noNode(x, 0, "behind " + wrong);
            noNode(x, 6, "behind " + wrong);
        }
    }

    /** 5: "NONE when .. there was none" (no read() yet). */
    private static void placeWithoutRead() {
        NetText x = new NetText();
        Due.same("place() of a new object", x.place(), NetText.NONE);
        x.feed(0, 0, 0, 0, 0);
        Due.same("place() of a tape that is not read", x.place(), NetText.NONE);
        x.end(0);
        Due.same("place() of a tape that was cut off", x.place(), NetText.NONE);
        Due.same("NONE", NetText.NONE, -1);
    }

    /** 5: "NONE when it had none". */
    private static void placeWithoutFault() {
        NetText x = new NetText();
        Due.good(x, TRAIN, TRAIN_NODES);
        Due.fault(x, "!", 1, 0);
        Due.good(x, TRAIN, TRAIN_NODES);
        x.feed(-1, -1, -1, -1, -1);
        Due.same("place() with wrong bytes not read yet", x.place(), NetText.NONE);
    }

    /** 5: "Where the fault of the latest read() was". */
    private static void placeOfTheLatestRead() {
        NetText x = new NetText();
        Due.fault(x, "!", 1, 0);
        Due.fault(x, TRAIN + "out ?;", 1, 24);
        x.feed(-1, -1, -1, -1, -1);
        Due.same("place() while the tape is fed", x.place(), 24);
        x.end(0);
        Due.same("place() behind end(0)", x.place(), 24);
        Due.refuses("end(-1)", NO_ARGUMENT, () -> end(x, -1));
        Due.same("place() behind a refused call", x.place(), 24);
        Due.refuses("kind(0)", NO_INDEX, () -> x.kind(0));
        Due.same("place() behind a refused call", x.place(), 24);
        Due.fault(x, "", 2, 0);
        Due.fault(x, TRAIN + " ".repeat(300) + "?", 1, 320);
        Due.fault(x, TRAIN + " ".repeat(10000) + ";", 2, 10020);
        Due.fault(x, TRAIN + " ".repeat(65499) + "?", 1, 65519);
    }

    /** 6 to 14: "there is no such node": before any read(). */
    private static void noSuchNodeBeforeARead() {
        NetText x = new NetText();
        for (int n : new int[] {0, 1, -1, 511, 512, Integer.MAX_VALUE, Integer.MIN_VALUE}) {
            noNode(x, n, "before any read()");
        }
    }

    /** 6 to 14: "there is no such node": behind the last one. */
    private static void noSuchNodeBehindTheLast() {
        NetText x = items("");
        isNode(x, 0, 0, "the first");
        isNode(x, TRAIN_NODES - 1, 16, "the last");
        for (int n : new int[] {TRAIN_NODES, TRAIN_NODES + 1, 256, 511, 512, 513, 65536, 65536 + 4, 1 << 30, Integer.MAX_VALUE}) {
            noNode(x, n, "behind the last");
        }
        // As many nodes as rows have room for, one less and one more.
        for (int items = 250; items <= 260; items++) {
            NetText wide = items("out a;".repeat(items));
            isNode(wide, 2 * items + 4, 15, "the last");
            noNode(wide, 2 * items + 5, "behind the last");
        }
        NetText odd = items("out -a;" + "out a;".repeat(252));
        isNode(odd, 511, 15, "the last of 512");
        noNode(odd, 512, "behind 512");
    }

    /** 6 to 14: "there is no such node": below 0. */
    private static void noSuchNodeBelowZero() {
        NetText x = items("out a;");
        isNode(x, 0, 0, "the first");
        for (int n : new int[] {-1, -2, -5, -6, -7, -256, -65536, Integer.MIN_VALUE, Integer.MIN_VALUE + 1}) {
            noNode(x, n, "below 0");
        }
    }

    /** 6 to 14: "there is no such node": behind a read() with a fault. */
    private static void noSuchNodeBehindAFault() {
        NetText x = items("out a;");
        Due.fault(x, TRAIN + "out a;?", 1, 26);
        noNode(x, 0, "behind a fault");
        noNode(x, 6, "behind a fault");
        noNode(x, -1, "behind a fault");
        Due.good(x, TRAIN, TRAIN_NODES);
        isNode(x, 4, 16, "behind a good read()");
    }

    /** 6 to 14: "there is no such node": but for those of the latest text. */
    private static void noSuchNodeOfAnEarlierText() {
        NetText x = items("out a;");
        isNode(x, 6, 15, "of the first text");
        Due.good(x, TRAIN, TRAIN_NODES);
        noNode(x, 5, "of the first text");
        noNode(x, 6, "of the first text");
        Due.good(x, TRAIN + "out -a;", TRAIN_NODES + 3);
        isNode(x, 7, 15, "of the third text");
        // A tape that is not read yet is no text.
        Due.feed(x, TRAIN);
        isNode(x, 7, 15, "while the tape is fed");
        x.end(3);
        isNode(x, 7, 15, "while the tape is cut");
    }

    /** 6: "A node's kind." Every one there is. */
    private static void kinds() {
        NetText x = readOf(EVERY_KIND);
        // train .. input .. index .. loss . out . block .. give . param .. let .. repeat ..
        int[] due = {0, 11, 16, 9, 16, 1, 15, 10, 2, 15, 10, 11, 16, 3, 15, 4, 15, 5, 15, 15, 21, 16, 6, 15, 10, 11, 14, 9, 16,
            16, 7, 15, 17, 19, 20, 15, 18, 15, 16, 8, 11, 12, 13, 16, 16, 16};
        for (int n = 0; n < due.length; n++) {
            int node = n;
            Due.answers("kind(" + n + ")", () -> x.kind(node), due[n]);
        }
        noNode(x, due.length, "behind the last");
        boolean[] seen = new boolean[22];
        for (int kind : due) {
            seen[kind] = true;
        }
        for (int kind = 0; kind < seen.length; kind++) {
            Due.same("kind " + kind + " is in the text", seen[kind] ? 1 : 0, 1);
        }
    }

    /** 7: "The place of a node's first word". */
    private static void beginOfFirstWords() {
        Due.same("begin(0) at the tape's beginning", items("").begin(0), 0);
        Due.same("begin(0) behind blanks", readOf(" \t\r\n" + TRAIN).begin(0), 4);
        Due.same("begin(0) behind a comment", readOf("#x\n" + TRAIN).begin(0), 3);
        NetText far = items(" ".repeat(10000) + "out a;");
        Due.same("begin(5) far behind", far.begin(5), 10020);
        Due.same("begin(6) far behind", far.begin(6), 10024);
        // A row that begins with a bracket begins at it, and so does the whole that the row is in.
        NetText x = items("out (a)+b;out (a)*b;param w[(1)+2,(1)*2,(1)];");
        Due.same("begin of the sum", x.begin(6), 24);
        Due.same("begin of its first piece", x.begin(7), 25);
        Due.same("begin of the product", x.begin(10), 34);
        Due.same("begin of its first piece", x.begin(11), 35);
        Due.same("begin of the shape", x.begin(15), 47);
        Due.same("begin of whole 1", x.begin(16), 48);
        Due.same("begin of the terms", x.begin(17), 48);
        Due.same("begin of their first piece", x.begin(18), 49);
        Due.same("begin of whole 2", x.begin(20), 54);
        Due.same("begin of the factors", x.begin(21), 54);
        Due.same("begin of their first piece", x.begin(22), 55);
        Due.same("begin of whole 3", x.begin(24), 60);
        Due.same("begin of its number", x.begin(25), 61);
    }

    /** 7: "(of a terms, factors, sum or product in brackets: of the first one in them)". */
    private static void beginInBrackets() {
        NetText x = items("out (a+b);out ((a*b));out ( #(\n a+b)*c;out -( a*b);out f(( a+b));out ((a)*b);");
        Due.same("begin of a sum in brackets", x.begin(6), 25);
        Due.same("begin of a product in two", x.begin(10), 36);
        Due.same("begin of a product of a sum", x.begin(14), 46);
        Due.same("begin of the sum behind a comment", x.begin(15), 52);
        Due.same("begin of a negative", x.begin(20), 63);
        Due.same("begin of the product in it", x.begin(21), 66);
        Due.same("begin of a call", x.begin(25), 75);
        Due.same("begin of the sum in brackets in it", x.begin(26), 79);
        Due.same("begin of a product that begins with brackets in brackets", x.begin(30), 90);
        Due.same("begin of its first piece", x.begin(31), 91);
        NetText y = items("param w[(1+2),((1*2)),( 1+2)*3,((1)*2)];");
        Due.same("begin of a whole", y.begin(8), 28);
        Due.same("begin of the terms in brackets", y.begin(9), 29);
        Due.same("begin of a whole", y.begin(12), 34);
        Due.same("begin of the factors in two", y.begin(13), 36);
        Due.same("begin of a whole", y.begin(16), 42);
        Due.same("begin of its factors", y.begin(17), 42);
        Due.same("begin of the terms in them", y.begin(18), 44);
        Due.same("begin of a whole", y.begin(22), 51);
        Due.same("begin of factors that begin with brackets in brackets", y.begin(23), 52);
        Due.same("begin of their first piece", y.begin(24), 53);
    }

    /** 8: "NONE for train, and what else is not in one." */
    private static void parentNone() {
        NetText x = readOf(EVERY_KIND + "repeat 2{repeat 3{let a=1;}param w[];}");
        String outermost = " 0 1 2 3 4 5 6 7 8 ";
        int depthOneRepeat = 46;
        for (int n = 0; n < 58; n++) {
            int node = n;
            boolean outer = outermost.contains(" " + x.kind(n) + " ") && n <= depthOneRepeat;
            if (outer) {
                Due.answers("parent(" + n + ")", () -> x.parent(node), NetText.NONE);
            } else {
                Due.answers("parent(" + n + ")", () -> x.parent(node) >= 0 && x.parent(node) < node ? 1 : 0, 1);
            }
        }
        Due.same("parent of a repeat in a repeat", x.parent(49), 46);
        Due.same("parent of a let in both", x.parent(52), 49);
        Due.same("parent of a param behind it", x.parent(55), 46);
        NetText block = items("block b(){let a=1;repeat 2{}param w[];give 1;}");
        for (int n : new int[] {6, 9, 12, 15}) {
            Due.same("parent(" + n + ") in a block", block.parent(n), 5);
        }
    }

    private static void signs(NetText x, int from, String due) {
        for (int i = 0; i < due.length(); i++) {
            int n = from + i;
            char sign = due.charAt(i);
            Due.answers("sign(" + n + ")", () -> x.sign(n), sign == '0' ? 0 : sign);
        }
        noNode(x, from + due.length(), "behind the last");
    }

    /** 9: "+ - * @ / before it in their row, as its byte, 0 for the first one of a row". */
    private static void signFirstOfARow() {
        signs(items("out a+b-c;"), 5, "000+-");
        signs(items("out a*b@c/2;"), 5, "000*@/");
        signs(items("out a-b*c+d@e;"), 5, "000-0*+0@");
        signs(items("param w[1+2-3];"), 5, "000000+-");
        signs(items("param w[1*2/3];"), 5, "000000*/");
        signs(items("param w[1-2/x.3+y];"), 5, "000000-0/+");
        signs(items("out a;"), 5, "00");
        signs(items("out a--b;"), 5, "000-0");
        signs(items("out -a*-b;"), 5, "0000*0");
    }

    /** 9: "(also in brackets: the node that is in them)". */
    private static void signInBrackets() {
        signs(items("out a-(b);"), 5, "000-");
        signs(items("out a-((b));"), 5, "000-");
        signs(items("out a-(b+c);"), 5, "000-0+");
        signs(items("out a-(b*c);"), 5, "000-0*");
        signs(items("out a*(b+c);"), 5, "000*0+");
        signs(items("out a@((b*c));"), 5, "000@0*");
        signs(items("out a-(-b);"), 5, "000-0");
        signs(items("out a-(f(b));"), 5, "000-0");
        signs(items("out (a+b)*c;"), 5, "0000+*");
        signs(items("out (a*b)-c;"), 5, "0000*-");
        signs(items("out a-(b)*c;"), 5, "000-0*");
        signs(items("out a-((b)*c+d);"), 5, "000-00*+");
        signs(items("out -(a+b);"), 5, "0000+");
        signs(items("param w[1*(2-3)];"), 5, "000000*0-");
        signs(items("param w[1-((2/3))];"), 5, "000000-0/");
        signs(items("param w[1-(2)];"), 5, "000000-");
        signs(items("param w[(1-2)*3];"), 5, "0000000-*");
    }

    /** 9: "of a param's fraction = or ~". */
    private static void signOfFractions() {
        signs(items("param w[]=1;"), 5, "000=0");
        signs(items("param w[]=-1/2;"), 5, "000=00");
        signs(items("param w[]~1/2,3;"), 5, "000~0000");
        signs(items("param w[]~-1,2-3;"), 5, "000~0000-");
        signs(readOf("train bits 1 rate -1/2 until 3 rate 4 momentum 5 decay 6 clip 7;"), 0, "0".repeat(16));
    }

    /** 9: "of names and wholes behind the ; of a block's names, or a call: ; (59)". */
    private static void signBehindSemicolon() {
        signs(items("block b(x){give x;}"), 5, "0000");
        signs(items("block b(;x){give x;}"), 5, "0;00");
        signs(items("block b(x,y;z,w){give x;}"), 5, "000;;00");
        signs(items("out f(1,2);"), 5, "0000");
        signs(items("out f(;1);"), 5, "00;0");
        signs(items("out f([1],n;1,n+2*m);"), 5, "000000;0;00+0*");
        signs(items("out a*f(b-c;1)-2;"), 5, "0000*0" + "0-;0-");
        Due.same("sign of a whole behind ;", items("out f(;1);").sign(7), 59);
    }

    /** 9: "0 else (so of a fraction's numbers)". */
    private static void signElse() {
        NetText x = readOf(EVERY_KIND);
        signs(x, 0, "0".repeat(19) + ";000000" + "0=00" + "000000+0*" + "00000*+");
    }

    private static void name(NetText x, int n, int kind, String due) {
        Due.answers("kind(" + n + ")", () -> x.kind(n), kind);
        Due.answers("nameLength(" + n + ")", () -> x.nameLength(n), due.length());
        for (int k = 0; k < due.length(); k++) {
            int at = k;
            Due.answers("nameAt(" + n + ", " + k + ")", () -> x.nameAt(n, at), due.charAt(k));
        }
        int length = due.length();
        for (int k : new int[] {-1, -2, length, length + 1, 40, 41, 65536, -65536, Integer.MAX_VALUE, Integer.MIN_VALUE}) {
            if (k < 0 || k >= length) {
                Due.refuses("nameAt(" + n + ", " + k + ")", NO_INDEX, () -> x.nameAt(n, k));
            }
        }
    }

    /** 10: "How many bytes the name has that a name node is, or a call, side or block has": from 1 to 40. */
    private static void nameLengths() {
        for (int length : new int[] {1, 2, 39, 40}) {
            String name = "q_Z9abcdefghijklmnopqrstuvwxyzABCDEFGHIJ".substring(0, length);
            name(items("out " + name + ";"), 6, 15, name);
            name(items("out " + name + "();"), 6, 20, name);
            name(items("out " + name + " #a\n (b);"), 6, 20, name);
            name(items("param w[" + name + ".0];"), 9, 14, name);
            name(items("param w[" + name + " . 0];"), 9, 14, name);
            name(items("block " + name + "(b){give 1;}"), 5, 5, name);
            name(items("block #a\n\t" + name + " (b){give 1;}"), 5, 5, name);
            name(items("param w[" + name + "];"), 9, 15, name);
            name(items("block b(;" + name + "){give 1;}"), 6, 15, name);
        }
    }

    private static boolean hasName(int kind) {
        return kind == 5 || kind == 14 || kind == 15 || kind == 20;
    }

    /** 10: "NONE for others." */
    private static void nameLengthNone() {
        NetText x = readOf(EVERY_KIND);
        for (int n = 0; n < 46; n++) {
            int node = n;
            Due.answers("nameLength(" + n + ")", () -> x.nameLength(node), hasName(x.kind(n)) ? 1 : NetText.NONE);
        }
        // A row is one of the others, whatever it begins with.
        NetText rows = items("out ab()*1+1;out ab+1;out ab*1;param w[ab.0*1+1];");
        int[] due = {-1, -1, -1, 2, -1, -1, -1, -1, 2, -1, -1, -1, 2, -1, -1, 1, -1, -1, -1, -1, 2, -1, -1};
        for (int i = 0; i < due.length; i++) {
            Due.same("nameLength(" + (5 + i) + ")", rows.nameLength(5 + i), due[i]);
        }
    }

    /** 11: "Byte k of it. IndexOutOfBoundsException: .. it has no such byte." */
    private static void nameAtEdges() {
        NetText x = items("out xyz;");
        Due.answers("nameAt(6, 0)", () -> x.nameAt(6, 0), 'x');
        Due.answers("nameAt(6, 2)", () -> x.nameAt(6, 2), 'z');
        Due.refuses("nameAt(6, 3)", NO_INDEX, () -> x.nameAt(6, 3));
        Due.refuses("nameAt(6, -1)", NO_INDEX, () -> x.nameAt(6, -1));
        // Numbers that come round to a byte of the name when its place is added, or their high bits fall off.
        for (int k : new int[] {-24, -23, Integer.MAX_VALUE, Integer.MIN_VALUE, 1 << 16, 1 << 8, 1 << 31 | 1, -65536}) {
            Due.refuses("nameAt(6, " + k + ")", NO_INDEX, () -> x.nameAt(6, k));
        }
        Due.refuses("nameAt(7, 0)", NO_INDEX, () -> x.nameAt(7, 0));
        Due.refuses("nameAt(-1, 0)", NO_INDEX, () -> x.nameAt(-1, 0));
        Due.refuses("nameAt(7, -1)", NO_INDEX, () -> x.nameAt(7, -1));
        // The bytes of a name stay what they are while the tape is fed anew.
        for (int i = 0; i < 100; i++) {
            x.feed(-1, -1, -1, -1, -1);
        }
        Due.answers("nameAt(6, 1) while the tape is fed", () -> x.nameAt(6, 1), 'y');
    }

    /** 11: a node that has no name has no byte of one. */
    private static void nameAtOfNoName() {
        NetText x = readOf(EVERY_KIND);
        for (int n = 0; n < 46; n++) {
            int node = n;
            if (!hasName(x.kind(n))) {
                for (int k : new int[] {0, -1, 1, -2, Integer.MAX_VALUE, Integer.MIN_VALUE}) {
                    Due.refuses("nameAt(" + n + ", " + k + ")", NO_INDEX, () -> x.nameAt(node, k));
                }
            } else {
                Due.refuses("nameAt(" + n + ", 1)", NO_INDEX, () -> x.nameAt(node, 1));
            }
        }
    }

    private static void number(String number, long digits, int behind) {
        NetText x = items("out " + number + ";param w[x." + number + "];param w[]=-" + number + "/" + number + ";");
        for (int n : new int[] {6, 11, 16, 17}) {
            Due.answers("kind(" + n + ")", () -> x.kind(n), n == 11 ? 14 : 16);
            Due.answers("digits(" + n + ") of " + number, () -> x.digits(n), digits);
            Due.answers("behind(" + n + ") of " + number, () -> x.behind(n), behind);
        }
    }

    /** 12: "The digits of a number (or a side's), without its point, as a whole number". */
    private static void digitsEdges() {
        number("0", 0, 0);
        number("000000000", 0, 0);
        number("000000000.000000000", 0, 9);
        number("000000001", 1, 0);
        number("0.000000001", 1, 9);
        number("999999999", 999999999L, 0);
        number("999999999.9", 9999999999L, 1);
        number("999999999.999999999", 999999999999999999L, 9);
        number("2.147483647", 2147483647L, 9);
        number("2.147483648", 2147483648L, 9);
        number("4.294967295", 4294967295L, 9);
        number("4.294967296", 4294967296L, 9);
        number("123456789.012345678", 123456789012345678L, 9);
        number("10.10", 1010, 2);
    }

    /** 12: "NONE for others." */
    private static void digitsNone() {
        NetText x = readOf(EVERY_KIND);
        for (int n = 0; n < 46; n++) {
            int node = n;
            boolean has = x.kind(n) == 14 || x.kind(n) == 16;
            Due.answers("digits(" + n + ") < 0", () -> Math.min(0, x.digits(node)), has ? 0 : NetText.NONE);
        }
        // A row is one of the others, whatever it begins with.
        NetText rows = items("out 12*a+3;param w[12*a+3,x.45/a];");
        int[] due = {-1, -1, -1, 12, -1, 3, -1, -1, -1, -1, -1, -1, 12, -1, 3, -1, -1, 45, -1};
        for (int i = 0; i < due.length; i++) {
            Due.same("digits(" + (5 + i) + ")", rows.digits(5 + i), due[i]);
        }
    }

    /** 13: "How many of them stand behind its point": from 0 to 9. */
    private static void behindEdges() {
        number("7", 7, 0);
        long digits = 7;
        for (int behind = 1; behind <= 9; behind++) {
            digits = digits * 10;
            number("7." + "0".repeat(behind), digits, behind);
            number("123456789." + "9".repeat(behind), Long.parseLong("123456789" + "9".repeat(behind)), behind);
        }
    }

    /** 13: "of a fraction 1 if it begins with -, else 0". */
    private static void behindOfFractions() {
        NetText x = readOf("train bits 1 rate 0 until 1 rate -0 momentum -1.25 decay 1.25/3 clip - # -\n 1/3.5;");
        int[] fractions = {3, 7, 9, 11, 14};
        int[] due = {0, 1, 1, 0, 1};
        for (int i = 0; i < fractions.length; i++) {
            Due.same("kind(" + fractions[i] + ")", x.kind(fractions[i]), 9);
            Due.same("behind(" + fractions[i] + ")", x.behind(fractions[i]), due[i]);
            Due.same("digits(" + fractions[i] + ")", x.digits(fractions[i]), NetText.NONE);
        }
        Due.same("behind of a number in one", x.behind(10), 2);
    }

    /** 13: "NONE for others." */
    private static void behindNone() {
        NetText x = readOf(EVERY_KIND);
        for (int n = 0; n < 46; n++) {
            int node = n;
            boolean has = x.kind(n) == 9 || x.kind(n) == 14 || x.kind(n) == 16;
            Due.answers("behind(" + n + ") < 0", () -> Math.min(0, x.behind(node)), has ? 0 : NetText.NONE);
        }
        // A row is one of the others, whatever it begins with; so is a negative, though it begins with -.
        NetText rows = items("out 1.25*a+3;out -1.5;param w[1.25*a+3,x.4.5/a];");
        int[] due = {-1, -1, -1, 2, -1, 0, -1, -1, 1, -1, -1, -1, -1, -1, -1, 2, -1, 0, -1, -1, 1, -1};
        for (int i = 0; i < due.length; i++) {
            Due.same("behind(" + (5 + i) + ")", rows.behind(5 + i), due[i]);
        }
    }

    /** 14: "The depth behind a call's (": from 1 to 30. */
    private static void depthEdges() {
        for (int open = 0; open <= 29; open++) {
            depthOf("out " + "(".repeat(open) + "f()" + ")".repeat(open) + ";", 6, open + 1);
            depthOf("out " + "-".repeat(open) + "f();", 6 + open, open + 1);
            depthOf("out " + "f(".repeat(open) + "f()" + ")".repeat(open) + ";", 6 + open, open + 1);
            depthOf("repeat 2{".repeat(open) + "let y=f();" + "}".repeat(open), 7 + 3 * open, open + 1);
        }
        depthOf("block b(){give f();}", 7, 2);
        depthOf("out (a)+-b*g([1])+f();", 15, 1);
        depthOf("out f(g(),a)+f();", 10, 1);
    }

    private static void depthOf(String items, int call, int due) {
        NetText x = items(items);
        Due.answers("kind(" + call + ") of " + items, () -> x.kind(call), 20);
        Due.answers("depth(" + call + ") of " + items, () -> x.depth(call), due);
    }

    /** 14: "NONE for others." */
    private static void depthNone() {
        NetText x = readOf(EVERY_KIND);
        for (int n = 0; n < 46; n++) {
            int node = n;
            Due.answers("depth(" + n + ")", () -> x.depth(node), x.kind(n) == 20 ? 2 : NetText.NONE);
        }
        // A row is one of the others, whatever it begins with.
        NetText rows = items("out f()*1+1;out f(g()-1);");
        int[] due = {-1, -1, -1, 1, -1, -1, -1, 1, -1, 2, -1};
        for (int i = 0; i < due.length; i++) {
            Due.same("depth(" + (5 + i) + ")", rows.depth(5 + i), due[i]);
        }
    }
}
