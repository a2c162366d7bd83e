import java.util.Arrays;

/**
 * Reads texts that tell networks, and shows them as trees, or tells the first place where the text
 * can't go on, and why. A text is first cut into words, and the words are then read as a tree.
 */
public final class NetText {
    public static final int NONE = -1;

    private static final int TAPE_LIMIT = 65536;
    private static final int FED_AT_ONCE = 20;
    // Doubled again and again this meets TAPE_LIMIT exactly.
    private static final int FIRST_ROOM = 512;

    private byte[] tape;
    private int length;
    private int place;
    private final Words words;
    private final Tree tree;
    private final Parser parser;

    public NetText() {
        tape = new byte[FIRST_ROOM];
        length = 0;
        place = NONE;
        words = new Words(FIRST_ROOM);
        tree = new Tree(FIRST_ROOM);
        parser = new Parser(words, tree);
    }

    public int feed(int a, int b, int c, int d, int e) throws IllegalStateException {
        if (length > TAPE_LIMIT - FED_AT_ONCE) {
            throw new IllegalStateException("the tape would have more than 65536 bytes");
        }
        if (length + FED_AT_ONCE > tape.length) {
            tape = Arrays.copyOf(tape, 2 * tape.length);
        }
        append(a);
        append(b);
        append(c);
        append(d);
        append(e);
        return length;
    }

    private void append(int fourBytes) {
        for (int shift = 24; shift >= 0 && length < tape.length; shift -= 8) {
            tape[length] = (byte) (fourBytes >> shift);
            length++;
        }
    }

    public void end(int n) throws IllegalArgumentException {
        if (n < 0 || n > length) {
            throw new IllegalArgumentException("the tape has not so many bytes");
        }
        length = n;
    }

    public int read() {
        words.cut(tape, length);
        length = 0;
        int fault = parser.parse();
        place = fault == Parser.NO_FAULT ? NONE : parser.faultPlace();
        return fault == Parser.NO_FAULT ? tree.count : fault - 100;
    }

    public int place() {
        return place;
    }

    public int kind(int n) throws IndexOutOfBoundsException {
        demandNode(n);
        return tree.kinds[n];
    }

    public int begin(int n) throws IndexOutOfBoundsException {
        demandNode(n);
        return words.startOf(tree.firstWords[n]);
    }

    public int parent(int n) throws IndexOutOfBoundsException {
        demandNode(n);
        return tree.parents[n];
    }

    public int sign(int n) throws IndexOutOfBoundsException {
        demandNode(n);
        return tree.signs[n];
    }

    public int nameLength(int n) throws IndexOutOfBoundsException {
        demandNode(n);
        return words.lengthOf(tree.nameWord(n));
    }

    public int nameAt(int n, int k) throws IndexOutOfBoundsException {
        demandNode(n);
        int word = tree.nameWord(n);
        if (k < 0 || k >= words.lengthOf(word)) {
            throw new IndexOutOfBoundsException("no such byte of a name");
        }
        return words.byteAt(words.startOf(word) + k);
    }

    public long digits(int n) throws IndexOutOfBoundsException {
        demandNode(n);
        return words.valueOf(tree.numberWord(n));
    }

    public int behind(int n) throws IndexOutOfBoundsException {
        demandNode(n);
        if (tree.kinds[n] == Kind.FRACTION) {
            return words.sortOf(tree.firstWords[n]) == '-' ? 1 : 0;
        }
        return words.digitsBehindPoint(tree.numberWord(n));
    }

    public int depth(int n) throws IndexOutOfBoundsException {
        demandNode(n);
        return tree.depths[n];
    }

    private void demandNode(int n) {
        if (!tree.holds(n)) {
            throw new IndexOutOfBoundsException("no such node");
        }
    }

    /** The kinds of nodes. */
    private static final class Kind {
        static final int TRAIN = 0;
        static final int INPUT = 1;
        static final int INDEX = 2;
        static final int LOSS = 3;
        static final int OUT = 4;
        static final int BLOCK = 5;
        static final int PARAM = 6;
        static final int LET = 7;
        static final int REPEAT = 8;
        static final int FRACTION = 9;
        static final int SHAPE = 10;
        static final int WHOLE = 11;
        static final int TERMS = 12;
        static final int FACTORS = 13;
        static final int SIDE = 14;
        static final int NAME = 15;
        static final int NUMBER = 16;
        static final int SUM = 17;
        static final int PRODUCT = 18;
        static final int NEGATIVE = 19;
        static final int CALL = 20;
        static final int GIVE = 21;
    }

    /** The sorts of words; the sort of a sign is its byte, so none of these may be one of those. */
    private static final class Sort {
        static final int NOTHING = 0;
        static final int TAPE_END = 1;
        static final int NO_WORD = 2;
        static final int NAME = 3;
        static final int NUMBER = 4;
        static final int PARAM = 256;
        static final int INPUT = 257;
        static final int INDEX = 258;
        static final int LET = 259;
        static final int LOSS = 260;
        static final int OUT = 261;
        static final int BLOCK = 262;
        static final int GIVE = 263;
        static final int REPEAT = 264;
        static final int TRAIN = 265;
        static final int BELOW = 266;
        static final int BITS = 267;
        static final int RATE = 268;
        static final int UNTIL = 269;
        static final int MOMENTUM = 270;
        static final int DECAY = 271;
        static final int CLIP = 272;
    }

    /**
     * A text cut into words. The last one is the tape's end, or the first place where no word is.
     * The bytes are kept, because names and numbers are asked for while the tape is fed anew.
     */
    private static final class Words {
        private static final String SIGNS = "+-*@/()[]{},;=.~";
        private static final int NAME_LIMIT = 40;
        private static final int DIGITS_LIMIT = 9;

        private byte[] text;
        private int length;
        private int[] sorts;
        private int[] starts;
        private int[] ends;
        private int count;

        Words(int room) {
            text = new byte[room];
            length = 0;
            sorts = new int[room + 1];
            starts = new int[room + 1];
            ends = new int[room + 1];
            count = 0;
        }

        void cut(byte[] tape, int tapeLength) {
            keep(tape, tapeLength);
            count = 0;
            int from = 0;
            int sort = Sort.NOTHING;
            for (int i = 0; i <= length && sort != Sort.TAPE_END && sort != Sort.NO_WORD; i++) {
                int start = afterBlanks(from);
                int end = endOfWord(start);
                sort = sortOfBytes(start, end);
                add(sort, start, end);
                from = end;
            }
        }

        private void keep(byte[] tape, int tapeLength) {
            if (text.length < tapeLength) {
                int room = tape.length;
                text = new byte[room];
                // Every word has a byte of its own, but for the tape's end.
                sorts = new int[room + 1];
                starts = new int[room + 1];
                ends = new int[room + 1];
            }
            System.arraycopy(tape, 0, text, 0, tapeLength);
            length = tapeLength;
        }

        private void add(int sort, int start, int end) {
            if (count < sorts.length) {
                sorts[count] = sort;
                starts[count] = start;
                ends[count] = end;
                count++;
            }
        }

        private int afterBlanks(int from) {
            int i = from;
            boolean inComment = false;
            while (i < length && (inComment || isBlank(byteAt(i)) || byteAt(i) == '#')) {
                inComment = byteAt(i) == '#' || inComment && byteAt(i) != '\n';
                i++;
            }
            return i;
        }

        private int endOfWord(int start) {
            int first = byteAt(start);
            if (isLetter(first)) {
                return afterName(start);
            }
            if (isDigit(first)) {
                return afterNumber(start);
            }
            return Math.min(start + 1, length);
        }

        private int sortOfBytes(int start, int end) {
            int first = byteAt(start);
            if (first == NONE) {
                return Sort.TAPE_END;
            }
            if (isLetter(first)) {
                return end - start <= NAME_LIMIT ? sortOfName(start, end) : Sort.NO_WORD;
            }
            if (isDigit(first)) {
                return isNumber(start, end) ? Sort.NUMBER : Sort.NO_WORD;
            }
            return SIGNS.indexOf((char) first) >= 0 ? first : Sort.NO_WORD;
        }

        private int afterName(int start) {
            int i = start;
            while (i < length && (isLetter(byteAt(i)) || isDigit(byteAt(i)))) {
                i++;
            }
            return i;
        }

        private int afterNumber(int start) {
            int point = afterDigits(start);
            if (byteAt(point) == '.' && isDigit(byteAt(point + 1))) {
                return afterDigits(point + 1);
            }
            return point;
        }

        private int afterDigits(int start) {
            int i = start;
            while (i < length && isDigit(byteAt(i))) {
                i++;
            }
            return i;
        }

        private boolean isNumber(int start, int end) {
            int point = afterDigits(start);
            int next = byteAt(end);
            return point - start <= DIGITS_LIMIT
                    && end - point - 1 <= DIGITS_LIMIT
                    && next != '.'
                    && !isLetter(next);
        }

        private int sortOfName(int start, int end) {
            switch (end - start) {
                case 3:
                    return sortOfThree(start);
                case 4:
                    return sortOfFour(start);
                case 5:
                    return sortOfFive(start);
                case 6:
                    return spells(start, "repeat") ? Sort.REPEAT : Sort.NAME;
                case 8:
                    return spells(start, "momentum") ? Sort.MOMENTUM : Sort.NAME;
                default:
                    return Sort.NAME;
            }
        }

        private int sortOfThree(int start) {
            if (spells(start, "let")) {
                return Sort.LET;
            }
            return spells(start, "out") ? Sort.OUT : Sort.NAME;
        }

        private int sortOfFour(int start) {
            if (spells(start, "loss")) {
                return Sort.LOSS;
            }
            if (spells(start, "give")) {
                return Sort.GIVE;
            }
            if (spells(start, "bits")) {
                return Sort.BITS;
            }
            if (spells(start, "rate")) {
                return Sort.RATE;
            }
            return spells(start, "clip") ? Sort.CLIP : Sort.NAME;
        }

        private int sortOfFive(int start) {
            if (spells(start, "param")) {
                return Sort.PARAM;
            }
            if (spells(start, "input")) {
                return Sort.INPUT;
            }
            if (spells(start, "index")) {
                return Sort.INDEX;
            }
            if (spells(start, "block")) {
                return Sort.BLOCK;
            }
            if (spells(start, "train")) {
                return Sort.TRAIN;
            }
            if (spells(start, "below")) {
                return Sort.BELOW;
            }
            if (spells(start, "until")) {
                return Sort.UNTIL;
            }
            return spells(start, "decay") ? Sort.DECAY : Sort.NAME;
        }

        private boolean spells(int start, String spelling) {
            for (int i = 0; i < spelling.length(); i++) {
                if (byteAt(start + i) != spelling.charAt(i)) {
                    return false;
                }
            }
            return true;
        }

        private static boolean isBlank(int b) {
            return b == '\t' || b == '\n' || b == '\r' || b == ' ';
        }

        private static boolean isLetter(int b) {
            return b >= 'a' && b <= 'z' || b >= 'A' && b <= 'Z' || b == '_';
        }

        private static boolean isDigit(int b) {
            return b >= '0' && b <= '9';
        }

        int byteAt(int i) {
            return i >= 0 && i < length ? text[i] & 255 : NONE;
        }

        private boolean holds(int word) {
            return word >= 0 && word < count;
        }

        int sortOf(int word) {
            return holds(word) ? sorts[word] : Sort.NOTHING;
        }

        int startOf(int word) {
            return holds(word) ? starts[word] : NONE;
        }

        int lengthOf(int word) {
            return holds(word) ? ends[word] - starts[word] : NONE;
        }

        long valueOf(int word) {
            if (!holds(word)) {
                return NONE;
            }
            long value = 0;
            for (int i = starts[word]; i < ends[word]; i++) {
                if (isDigit(byteAt(i))) {
                    value = value * 10 + (byteAt(i) - '0');
                }
            }
            return value;
        }

        int digitsBehindPoint(int word) {
            if (!holds(word)) {
                return NONE;
            }
            return Math.max(0, ends[word] - afterDigits(starts[word]) - 1);
        }
    }

    /** The nodes in their order: node n has place n of each row. Names and numbers stay in the words. */
    private static final class Tree {
        private int[] kinds;
        private int[] firstWords;
        private int[] parents;
        private int[] signs;
        private int[] depths;
        private int count;

        Tree(int room) {
            kinds = new int[room];
            firstWords = new int[room];
            parents = new int[room];
            signs = new int[room];
            depths = new int[room];
            count = 0;
        }

        /** Every node has a word of its own, so that as many nodes as words are room enough. */
        void clear(int room) {
            count = 0;
            if (kinds.length < room) {
                // Doubling keeps many slowly growing texts from making new rows each time.
                int larger = Math.max(room, 2 * kinds.length);
                kinds = new int[larger];
                firstWords = new int[larger];
                parents = new int[larger];
                signs = new int[larger];
                depths = new int[larger];
            }
        }

        boolean holds(int node) {
            return node >= 0 && node < count;
        }

        int add(int kind, int firstWord, int parent, int sign) {
            if (count >= kinds.length) {
                return NONE;
            }
            kinds[count] = kind;
            firstWords[count] = firstWord;
            parents[count] = parent;
            signs[count] = sign;
            depths[count] = NONE;
            count++;
            return count - 1;
        }

        /**
         * Puts a node in a node's place, and that one with all behind it into the new one: only its
         * second piece tells that a row is a node, and by then the first piece has its number.
         */
        void wrap(int node, int kind, int firstWord) {
            if (!holds(node) || count >= kinds.length) {
                return;
            }
            for (int i = count; i > node; i--) {
                kinds[i] = kinds[i - 1];
                firstWords[i] = firstWords[i - 1];
                parents[i] = parents[i - 1] + 1;
                signs[i] = signs[i - 1];
                depths[i] = depths[i - 1];
            }
            parents[node + 1] = node;
            signs[node + 1] = 0;
            kinds[node] = kind;
            firstWords[node] = firstWord;
            depths[node] = NONE;
            count++;
        }

        void turnInto(int node, int kind) {
            if (holds(node)) {
                kinds[node] = kind;
            }
        }

        void setDepth(int node, int depth) {
            if (holds(node)) {
                depths[node] = depth;
            }
        }

        int nameWord(int node) {
            if (!holds(node)) {
                return NONE;
            }
            switch (kinds[node]) {
                case Kind.NAME:
                case Kind.CALL:
                case Kind.SIDE:
                    return firstWords[node];
                case Kind.BLOCK:
                    return firstWords[node] + 1;
                default:
                    return NONE;
            }
        }

        int numberWord(int node) {
            if (!holds(node)) {
                return NONE;
            }
            switch (kinds[node]) {
                case Kind.NUMBER:
                    return firstWords[node];
                case Kind.SIDE:
                    return firstWords[node] + 2;
                default:
                    return NONE;
            }
        }
    }

    /**
     * Reads words as a tree. At a fault it stays at that word for good and takes it for NOTHING,
     * which no rule knows: so each rule that is still open ends by itself.
     */
    private static final class Parser {
        static final int NO_FAULT = 0;
        private static final int FAULT_NO_WORD = 1;
        private static final int FAULT_WRONG_WORD = 2;
        private static final int DEPTH_LIMIT = 30;

        private final Words words;
        private final Tree tree;
        private int at;
        private int sort;
        private int depth;

        Parser(Words words, Tree tree) {
            this.words = words;
            this.tree = tree;
            at = 0;
            sort = Sort.NOTHING;
            depth = 0;
        }

        /** Answers the fault's number; the tree is empty when there is a fault. */
        int parse() {
            tree.clear(words.count);
            at = 0;
            sort = words.sortOf(0);
            depth = 0;
            train();
            items(NONE);
            if (sort == Sort.TAPE_END) {
                return NO_FAULT;
            }
            tree.clear(0);
            return words.sortOf(at) == Sort.NO_WORD ? FAULT_NO_WORD : FAULT_WRONG_WORD;
        }

        int faultPlace() {
            return words.startOf(at);
        }

        private void step() {
            at++;
            sort = at < words.count ? words.sorts[at] : Sort.NOTHING;
        }

        private void refuse() {
            sort = Sort.NOTHING;
        }

        private void take(int wanted) {
            if (sort == wanted) {
                step();
            } else {
                refuse();
            }
        }

        private void open(int wanted) {
            if (sort == wanted && depth < DEPTH_LIMIT) {
                depth++;
                step();
            } else {
                refuse();
            }
        }

        private void close(int wanted) {
            take(wanted);
            depth--;
        }

        private void train() {
            int node = tree.add(Kind.TRAIN, at, NONE, 0);
            take(Sort.TRAIN);
            take(Sort.BITS);
            whole(node, 0);
            take(Sort.RATE);
            fraction(node, 0);
            for (int i = 0; i < words.count && sort == Sort.UNTIL; i++) {
                step();
                whole(node, 0);
                take(Sort.RATE);
                fraction(node, 0);
            }
            fractionBehind(Sort.MOMENTUM, node);
            fractionBehind(Sort.DECAY, node);
            fractionBehind(Sort.CLIP, node);
            take(';');
        }

        private void fractionBehind(int word, int parent) {
            if (sort == word) {
                step();
                fraction(parent, 0);
            }
        }

        private void items(int parent) {
            boolean more = true;
            for (int i = 0; i < words.count && more; i++) {
                more = statement(parent) || parent == NONE && outerItem();
            }
        }

        private boolean statement(int parent) {
            switch (sort) {
                case Sort.PARAM:
                    param(parent);
                    return true;
                case Sort.LET:
                    let(parent);
                    return true;
                case Sort.REPEAT:
                    repeat(parent);
                    return true;
                default:
                    return false;
            }
        }

        private boolean outerItem() {
            switch (sort) {
                case Sort.INPUT:
                    input();
                    return true;
                case Sort.INDEX:
                    index();
                    return true;
                case Sort.BLOCK:
                    block();
                    return true;
                case Sort.LOSS:
                    sumBehind(Sort.LOSS, Kind.LOSS, NONE);
                    return true;
                case Sort.OUT:
                    sumBehind(Sort.OUT, Kind.OUT, NONE);
                    return true;
                default:
                    return false;
            }
        }

        private void input() {
            int node = tree.add(Kind.INPUT, at, NONE, 0);
            take(Sort.INPUT);
            name(node, 0);
            shape(node);
            take(';');
        }

        private void index() {
            int node = tree.add(Kind.INDEX, at, NONE, 0);
            take(Sort.INDEX);
            name(node, 0);
            shape(node);
            take(Sort.BELOW);
            whole(node, 0);
            take(';');
        }

        private void block() {
            int node = tree.add(Kind.BLOCK, at, NONE, 0);
            take(Sort.BLOCK);
            take(Sort.NAME);
            open('(');
            if (sort == Sort.NAME) {
                names(node, 0);
            }
            if (sort == ';') {
                step();
                names(node, ';');
            }
            close(')');
            open('{');
            items(node);
            sumBehind(Sort.GIVE, Kind.GIVE, node);
            close('}');
        }

        private void sumBehind(int word, int kind, int parent) {
            int node = tree.add(kind, at, parent, 0);
            take(word);
            sum(node, 0, false);
            take(';');
        }

        private void param(int parent) {
            int node = tree.add(Kind.PARAM, at, parent, 0);
            take(Sort.PARAM);
            name(node, 0);
            shape(node);
            if (sort == '=') {
                step();
                fraction(node, '=');
            } else if (sort == '~') {
                step();
                fraction(node, '~');
                take(',');
                whole(node, 0);
            }
            take(';');
        }

        private void let(int parent) {
            int node = tree.add(Kind.LET, at, parent, 0);
            take(Sort.LET);
            name(node, 0);
            take('=');
            sum(node, 0, false);
            take(';');
        }

        private void repeat(int parent) {
            int node = tree.add(Kind.REPEAT, at, parent, 0);
            take(Sort.REPEAT);
            whole(node, 0);
            open('{');
            items(node);
            close('}');
        }

        private void name(int parent, int sign) {
            tree.add(Kind.NAME, at, parent, sign);
            take(Sort.NAME);
        }

        private void names(int parent, int sign) {
            name(parent, sign);
            for (int i = 0; i < words.count && sort == ','; i++) {
                step();
                name(parent, sign);
            }
        }

        private void number(int parent, int sign) {
            tree.add(Kind.NUMBER, at, parent, sign);
            take(Sort.NUMBER);
        }

        private void fraction(int parent, int sign) {
            int node = tree.add(Kind.FRACTION, at, parent, sign);
            if (sort == '-') {
                step();
            }
            number(node, 0);
            if (sort == '/') {
                step();
                number(node, 0);
            }
        }

        private void shape(int parent) {
            int node = tree.add(Kind.SHAPE, at, parent, 0);
            open('[');
            if (sort != ']') {
                wholes(node, 0);
            }
            close(']');
        }

        private void wholes(int parent, int sign) {
            whole(parent, sign);
            for (int i = 0; i < words.count && sort == ','; i++) {
                step();
                whole(parent, sign);
            }
        }

        private void whole(int parent, int sign) {
            int node = tree.add(Kind.WHOLE, at, parent, sign);
            sum(node, 0, true);
        }

        /** A sum, or in a whole: terms. */
        private void sum(int parent, int sign, boolean inWhole) {
            int firstWord = at;
            int node = tree.count;
            product(parent, sign, inWhole);
            for (int i = 0; i < words.count && (sort == '+' || sort == '-'); i++) {
                if (i == 0) {
                    tree.wrap(node, inWhole ? Kind.TERMS : Kind.SUM, firstWord);
                }
                int before = sort;
                step();
                product(node, before, inWhole);
            }
        }

        /** A product, or in a whole: factors. */
        private void product(int parent, int sign, boolean inWhole) {
            int firstWord = at;
            int node = tree.count;
            piece(parent, sign, inWhole);
            for (int i = 0; i < words.count && joinsPieces(inWhole); i++) {
                if (i == 0) {
                    tree.wrap(node, inWhole ? Kind.FACTORS : Kind.PRODUCT, firstWord);
                }
                int before = sort;
                step();
                if (before == '/' && !inWhole) {
                    number(node, before);
                } else {
                    piece(node, before, inWhole);
                }
            }
        }

        private boolean joinsPieces(boolean inWhole) {
            return sort == '*' || sort == '/' || sort == '@' && !inWhole;
        }

        /** A factor, or in a whole: a unit. */
        private void piece(int parent, int sign, boolean inWhole) {
            if (sort == Sort.NUMBER) {
                number(parent, sign);
            } else if (sort == Sort.NAME) {
                nameAndMore(parent, sign, inWhole);
            } else if (sort == '(') {
                open('(');
                sum(parent, sign, inWhole);
                close(')');
            } else if (sort == '-' && !inWhole) {
                negative(parent, sign);
            } else {
                refuse();
            }
        }

        private void nameAndMore(int parent, int sign, boolean inWhole) {
            int node = tree.count;
            name(parent, sign);
            if (sort == '.' && inWhole) {
                tree.turnInto(node, Kind.SIDE);
                step();
                take(Sort.NUMBER);
            } else if (sort == '(' && !inWhole) {
                tree.turnInto(node, Kind.CALL);
                call(node);
            }
        }

        private void negative(int parent, int sign) {
            int node = tree.add(Kind.NEGATIVE, at, parent, sign);
            open('-');
            piece(node, 0, false);
            depth--;
        }

        private void call(int node) {
            open('(');
            tree.setDepth(node, depth);
            if (sort != ';' && sort != ')') {
                arguments(node);
            }
            if (sort == ';') {
                step();
                wholes(node, ';');
            }
            close(')');
        }

        private void arguments(int call) {
            boolean more = true;
            for (int i = 0; i < words.count && more; i++) {
                if (sort == '[') {
                    shape(call);
                } else {
                    sum(call, 0, false);
                }
                more = sort == ',';
                if (more) {
                    step();
                }
            }
        }
    }
}
