/**
 * The boundaries that the document names under "What it is" and "Terms". Each method looks at the one
 * sentence that stands above it: the last value that is allowed, and the first one that is not.
 */
public final class TermsEdgeTest {
    private static final String TRAIN = "train bits 8 rate 1;";
    private static final int TRAIN_NODES = 5;
    private static final String SIGNS = "+-*@/()[]{},;=.~";
    private static final String[] OWN_WORDS = ("param input index let loss out block give repeat train below bits rate"
            + " until momentum decay clip").split(" ");

    /** Items with a name, written $, in every place where the rules have one. */
    private static final String[] NAME_PLACES = {
        "input $[];", "index $[] below 1;", "param $[];", "let $=1;", "block $(){give 1;}", "block b($){give 1;}",
        "block b(c,$){give 1;}", "block b(;$){give 1;}", "block b(;c,$){give 1;}", "out $;", "out 1+$;", "out 1*$;",
        "out 1@$;", "out -$;", "out ($);", "out $();", "out f($);", "out f(;$);", "out f([$]);", "param w[$];",
        "param w[1+$];", "param w[1*$];", "param w[1/$];", "param w[($)];", "param w[$.0];", "repeat $ {}",
        "index i[] below $;", "param w[]~1,$;", "loss $;", "block b(){give $;}",
    };
    /** Items with a number, written $, in every place where the rules have one. */
    private static final String[] NUMBER_PLACES = {
        "out $;", "out 1+$;", "out 1*$;", "out 1@$;", "out 1/$;", "out -$;", "out ($);", "out f($);", "out f(;$);",
        "out f([$]);", "param w[$];", "param w[x.$];", "param w[1/$];", "param w[($)];", "param w[]=$;",
        "param w[]=-$;", "param w[]=1/$;", "param w[]~$,1;", "param w[]~1,$;", "repeat $ {}", "index i[] below $;",
        "loss $;", "block b(){give $;}",
    };

    private TermsEdgeTest() {
    }

    public static void main(String[] args) {
        calls512();
        tapeOf65536();
        tapeFullOfText();
        blanks();
        comments();
        leftOutBetweenWords();
        nameFirstByte();
        nameLaterBytes();
        nameOf40();
        numberNineBefore();
        numberNineBehind();
        numberPointWithoutDigits();
        numberLastDigit();
        signs();
        pointWhereNoNumberGoesOn();
        wordsOfTheirOwn();
        wordsInQuotes();
        leftOutOrManyTimes();
        numberBehindSlash();
        depthOf30();
        depthOfWhatIsClosed();
        depthOfOtherMinuses();
        faultIsTheFirst();
        faultOneAtItsFirstByte();
        faultTwoAtIt();
        faultAtTheTapesEnd();
        rowsOfOnePiece();
        namesThatAreNoNodes();
        orderOfNodes();
        innermostParent();
        Due.finish();
    }

    private static void good(String items, int nodes) {
        Due.good(new NetText(), TRAIN + items, TRAIN_NODES + nodes);
    }

    private static void allowed(String items) {
        NetText x = new NetText();
        int answer = Due.read(x, TRAIN + items);
        Due.same("read() is a fault, of " + items, Math.min(answer, 0), 0);
        Due.same("place() behind " + items, x.place(), NetText.NONE);
    }

    private static void fault(String items, int number, int place) {
        Due.fault(new NetText(), TRAIN + items, number, TRAIN.length() + place);
    }

    private static boolean isBlank(int b) {
        return b == 9 || b == 10 || b == 13 || b == 32;
    }

    private static boolean isDigit(int b) {
        return "0123456789".indexOf(b) >= 0;
    }

    private static boolean isLetter(int b) {
        return "abcdefghijklmnopqrstuvwxyzABCDEFGHIJKLMNOPQRSTUVWXYZ_".indexOf(b) >= 0;
    }

    private static boolean isSign(int b) {
        return SIGNS.indexOf(b) >= 0;
    }

    /** "An object is used for at most 512 calls after it has been made". */
    private static void calls512() {
        NetText fedOnly = new NetText();
        for (int call = 1; call <= 512; call++) {
            Due.same("feed as call " + call, fedOnly.feed(0, 0, 0, 0, 0), 20 * call);
        }
        NetText readLast = new NetText();
        feedItems(readLast, 510);
        Due.same("read() as call 512", readLast.read(), TRAIN_NODES + 4 * 510 * 2);

        NetText askedLast = new NetText();
        feedItems(askedLast, 509);
        Due.same("read() as call 511", askedLast.read(), TRAIN_NODES + 4 * 509 * 2);
        Due.same("begin() as call 512", askedLast.begin(TRAIN_NODES + 4 * 509 * 2 - 1), 20 * 510 - 4);

        NetText faultLast = new NetText();
        for (int call = 1; call <= 510; call++) {
            faultLast.feed(0x23202020, 0x20202020, 0x20202020, 0x20202020, 0x2020200a);
        }
        Due.same("read() as call 511", faultLast.read(), -98);
        Due.same("place() as call 512", faultLast.place(), 10200);
    }

    /** The train, and two items of four nodes in each feed behind it. */
    private static void feedItems(NetText x, int feeds) {
        feedTwenty(x, TRAIN, 0);
        for (int i = 0; i < feeds; i++) {
            feedTwenty(x, "out a+1  ;out a+1  ;", 0);
        }
    }

    /** "THE TAPE has at most 65536 bytes." */
    private static void tapeOf65536() {
        NetText x = new NetText();
        Due.feed(x, " ".repeat(65516));
        Due.answers("feed to 65536", () -> x.feed(0x20202020, 0x20202020, 0x20202020, 0x20202020, 0x20202021), 65536);
        Due.refuses("feed to 65556", IllegalStateException.class, () -> x.feed(0, 0, 0, 0, 0));
        Due.same("read() of a full tape", x.read(), -99);
        Due.same("place() of its last byte", x.place(), 65535);
        Due.feed(x, " ".repeat(65516));
        x.feed(0x20202020, 0x20202020, 0x20202020, 0x20202020, 0x20202020);
        Due.same("read() of a full tape of blanks", x.read(), -98);
        Due.same("place() behind a full tape", x.place(), 65536);
    }

    private static void tapeFullOfText() {
        String item = "out 1+2;";
        String text = TRAIN + "    " + item.repeat((65536 - 24) / 8);
        Due.same("the text's bytes", text.length(), 65536);
        NetText x = new NetText();
        for (int from = 0; from + 20 <= text.length(); from += 20) {
            feedTwenty(x, text, from);
        }
        // 65536 is no multiple of twenty.
        x.end(65516);
        feedTwenty(x, text, 65516);
        int items = (65536 - 24) / 8;
        Due.same("read() of a full tape of text", x.read(), TRAIN_NODES + 4 * items);
        int last = TRAIN_NODES + 4 * items - 1;
        Due.same("begin() of its last node", x.begin(last), 65534);
        Due.same("parent() of its last node", x.parent(last), last - 2);
        Due.same("digits() of its last node", x.digits(last), 2);
        Due.refuses("kind() behind its last node", IndexOutOfBoundsException.class, () -> x.kind(last + 1));
    }

    private static void feedTwenty(NetText x, String text, int from) {
        int[] five = new int[5];
        for (int i = 0; i < 20; i++) {
            five[i / 4] = five[i / 4] << 8 | text.charAt(from + i);
        }
        x.feed(five[0], five[1], five[2], five[3], five[4]);
    }

    /** "BLANKS are the bytes 9, 10, 13 and 32". */
    private static void blanks() {
        for (int b = 0; b < 256; b++) {
            String text = "train" + (char) b + "bits 8 rate 1;";
            if (isBlank(b)) {
                Due.good(new NetText(), text, TRAIN_NODES);
            } else if (isLetter(b) || isDigit(b)) {
                Due.fault(new NetText(), text, 2, 0);
            } else if (b == '#') {
                Due.fault(new NetText(), text, 2, text.length());
            } else {
                Due.fault(new NetText(), text, isSign(b) ? 2 : 1, 5);
            }
        }
    }

    /** "a comment is # and all up to the next byte 10, or the tape's end". */
    private static void comments() {
        for (int b = 0; b < 256; b++) {
            if (b == 10) {
                fault("#" + (char) b + "!", 1, 2);
            } else {
                good("#" + (char) b + "!", 0);
            }
        }
        good("#", 0);
        good("#\n", 0);
        good("#\n#\n#", 0);
        good("# #\nout 1;", 2);
        fault("#\n\n?", 1, 3);
        good("#" + "?".repeat(9000), 0);
        fault("#" + "?".repeat(9000) + "\n?", 1, 9002);
        Due.good(new NetText(), "#\n" + TRAIN, TRAIN_NODES);
    }

    /** "Both are left out between words." */
    private static void leftOutBetweenWords() {
        String text = "train bits 8 rate - 1 / 2 ; let y = f ( [ x . 1 ] ; 2 ) ;";
        int nodes = 14;
        Due.good(new NetText(), text, nodes);
        Due.good(new NetText(), text.replace(" ", "\t\r\n  "), nodes);
        Due.good(new NetText(), text.replace(" ", "#!?\n#\n"), nodes);
        Due.good(new NetText(), "train bits 8 rate-1/2;let y=f([x.1];2);", nodes);
        // Inside a word they are not.
        fault("le t y=1;", 2, 0);
        fault("le#\nt y=1;", 2, 0);
        fault("let y=1 2;", 2, 8);
        fault("let y=1#\n2;", 2, 9);
        fault("let y=1 .2;", 2, 8);
        fault("let y=1. 2;", 1, 6);
        fault("let y=1.#\n2;", 1, 6);
    }

    /** "A NAME: a letter or _, ..": its first byte. */
    private static void nameFirstByte() {
        for (int b = 0; b < 256; b++) {
            String items = "let " + (char) b + "q=1;";
            if (isLetter(b)) {
                good(items, 3);
            } else if (isBlank(b)) {
                good(items, 3);
            } else if (isDigit(b)) {
                fault(items, 1, 4);
            } else if (b == '#') {
                fault(items, 2, items.length());
            } else {
                fault(items, isSign(b) ? 2 : 1, 4);
            }
        }
        good("let _=1;", 3);
        fault("let 9=1;", 2, 4);
    }

    /** ".. and all letters, digits and _ that follow". */
    private static void nameLaterBytes() {
        for (int b = 0; b < 256; b++) {
            String items = "let q" + (char) b + "=1;";
            if (isLetter(b) || isDigit(b)) {
                good(items, 3);
                NetText x = new NetText();
                Due.read(x, TRAIN + items);
                Due.answers("nameLength(6) of " + items, () -> x.nameLength(6), 2);
                Due.answers("nameAt(6, 1) of " + items, () -> x.nameAt(6, 1), b);
            } else if (isBlank(b)) {
                good(items, 3);
            } else if (b == '#') {
                fault(items, 2, items.length());
            } else if (b == '=') {
                fault(items, 2, 6);
            } else {
                fault(items, isSign(b) ? 2 : 1, 5);
            }
        }
    }

    /** ".. at most 40 bytes". */
    private static void nameOf40() {
        for (String item : NAME_PLACES) {
            int place = item.indexOf('$');
            allowed(item.replace("$", "n".repeat(39)));
            allowed(item.replace("$", "_9Zq".repeat(10)));
            fault(item.replace("$", "_9Zq".repeat(10) + "0"), 1, place);
            fault(item.replace("$", "n".repeat(42)), 1, place);
            fault(item.replace("$", "n".repeat(296)), 1, place);
        }
        // Where no name can come, one that is too long is still no word.
        fault("let n=1; " + "n".repeat(40), 2, 9);
        fault("let n=1; " + "n".repeat(41), 1, 9);
        fault("let" + "t".repeat(37) + " n=1;", 2, 0);
        fault("let" + "t".repeat(38) + " n=1;", 1, 0);
        good("let n=1;" + "#" + "n".repeat(41), 3);
    }

    /** "at most nine before .. the point". */
    private static void numberNineBefore() {
        for (String item : NUMBER_PLACES) {
            int place = item.indexOf('$');
            for (String most : new String[] {"0", "9", "000000000", "999999999", "999999999.9", "000000000.0"}) {
                allowed(item.replace("$", most));
            }
            for (String tooLong : new String[] {"0000000000", "1000000000", "1000000000.5", "4294967297", "9".repeat(260)}) {
                fault(item.replace("$", tooLong), 1, place);
            }
        }
        Due.good(new NetText(), "train bits 999999999 rate 999999999 clip 999999999;", 7);
        Due.fault(new NetText(), "train bits 1000000000 rate 1;", 1, 11);
        Due.fault(new NetText(), "train bits 1 rate 1000000000;", 1, 18);
    }

    /** "at most .. nine behind the point". */
    private static void numberNineBehind() {
        for (String item : NUMBER_PLACES) {
            int place = item.indexOf('$');
            for (String most : new String[] {"0.0", "1.000000000", "1.999999999", "999999999.999999999"}) {
                allowed(item.replace("$", most));
            }
            for (String tooLong : new String[] {"0.0000000000", "1.1234567890", "999999999.9999999990", "1." + "9".repeat(260)}) {
                fault(item.replace("$", tooLong), 1, place);
            }
        }
        Due.good(new NetText(), "train bits 1.123456789 rate 0.999999999;", 5);
        Due.fault(new NetText(), "train bits 1 rate 0.9999999990;", 1, 18);
    }

    /** "digits, and perhaps a point and digits behind it": not a point alone, not digits behind it alone. */
    private static void numberPointWithoutDigits() {
        for (String item : NUMBER_PLACES) {
            int place = item.indexOf('$');
            allowed(item.replace("$", "5.0"));
            fault(item.replace("$", "5."), 1, place);
            fault(item.replace("$", "123456789."), 1, place);
            fault(item.replace("$", ".5"), 2, place);
        }
        fault("out 5.", 1, 4);
        fault("out .", 2, 4);
    }

    /** "behind its last digit no letter, digit, point or _ stands". */
    private static void numberLastDigit() {
        for (String number : new String[] {"5", "123456789", "5.5", "5.123456789"}) {
            for (int b = 0; b < 256; b++) {
                behindLastDigit(number, b);
            }
            fault("out " + number, 2, 4 + number.length());
        }
    }

    private static void behindLastDigit(String number, int b) {
        String items = "out " + number + (char) b + ";";
        int behind = 4 + number.length();
        boolean nineDigits = number.endsWith("123456789");
        if (isLetter(b) || b == '.') {
            fault(items, 1, 4);
            fault("out " + number + (char) b, 1, 4);
        } else if (isDigit(b) && nineDigits) {
            fault(items, 1, 4);
        } else if (isDigit(b) || isBlank(b)) {
            good(items, 2);
        } else if (b == '#') {
            fault(items, 2, items.length());
        } else if (";+-*@/".indexOf(b) >= 0) {
            fault(items, 2, behind + 1);
        } else {
            fault(items, isSign(b) ? 2 : 1, behind);
        }
    }

    /** "SIGNS: + - * @ / ( ) [ ] { } , ; = . ~": any other byte that begins no word is none. */
    private static void signs() {
        for (int b = 0; b < 256; b++) {
            boolean word = isSign(b) || isLetter(b) || isDigit(b);
            if (isBlank(b) || b == '#') {
                good("" + (char) b, 0);
            } else {
                fault("" + (char) b, word ? 2 : 1, 0);
            }
        }
        // Signs stand by themselves, however close.
        good("let y=--(-f([],-g();1)@h()*-2/3);block b(;c){give 1;}", 20);
        good("param w[]~-1/2,(n);param w[]=-1/2;", 14);
    }

    /** "(a point is one only where no number goes on with it)". */
    private static void pointWhereNoNumberGoesOn() {
        good("param w[x.1];", 5);
        good("param w[x.1.5];", 5);
        good("param w[x.1*y.2];", 7);
        fault("param w[x.1.5.2];", 1, 10);
        fault("param w[1.5.x];", 1, 8);
        fault("param w[x.1 .5];", 2, 12);
        fault("param w[x..5];", 2, 10);
        fault("param w[1 . 5];", 2, 10);
        // A name that ends in a digit is no number: the point behind it is a sign.
        good("param w[x1.5];", 5);
        NetText side = new NetText();
        Due.read(side, TRAIN + "param w[x1.5];");
        Due.same("kind of x1.5", side.kind(9), 14);
        Due.same("digits of x1.5", side.digits(9), 5);
    }

    /** "These names are words of their own": no name may be one, and any other may. */
    private static void wordsOfTheirOwn() {
        Due.same("words of their own", OWN_WORDS.length, 17);
        for (String word : OWN_WORDS) {
            for (String item : NAME_PLACES) {
                fault(item.replace("$", word), 2, item.indexOf('$'));
                allowed(item.replace("$", word + "s"));
                allowed(item.replace("$", word + "0"));
                allowed(item.replace("$", "_" + word));
                allowed(item.replace("$", word.substring(0, word.length() - 1)));
                allowed(item.replace("$", word.substring(0, 1).toUpperCase() + word.substring(1)));
                allowed(item.replace("$", word.substring(0, word.length() - 1) + "Z"));
            }
        }
    }

    /** "words in quotes are themselves": where one can come, the others can't. */
    private static void wordsInQuotes() {
        String clips = "train bits 8 rate 1 until 2 rate 3 ";
        nextWords("", "train");
        nextWords("train ", "bits");
        nextWords("train bits ", "");
        nextWords("train bits 8 ", "rate");
        nextWords("train bits 8 rate ", "");
        nextWords("train bits 8 rate 1 ", "until momentum decay clip");
        nextWords("train bits 8 rate 1 until ", "");
        nextWords("train bits 8 rate 1 until 2 ", "rate");
        nextWords(clips, "until momentum decay clip");
        nextWords(clips + "momentum 4 ", "decay clip");
        nextWords(clips + "decay 4 ", "clip");
        nextWords(clips + "clip 4 ", "");
        nextWords(TRAIN, "param let repeat input index block loss out");
        nextWords(TRAIN + "let y=1;", "param let repeat input index block loss out");
        nextWords(TRAIN + "block b(){", "param let repeat give");
        nextWords(TRAIN + "block b(){let y=1;", "param let repeat give");
        nextWords(TRAIN + "block b(){give 1;", "");
        nextWords(TRAIN + "block b(){give 1;}", "param let repeat input index block loss out");
        nextWords(TRAIN + "block b(){repeat 2{", "param let repeat");
        nextWords(TRAIN + "repeat 2{", "param let repeat");
        nextWords(TRAIN + "repeat 2{let y=1;", "param let repeat");
        nextWords(TRAIN + "repeat 2{}", "param let repeat input index block loss out");
        nextWords(TRAIN + "index i[]", "below");
        nextWords(TRAIN + "input i[]", "");
        nextWords(TRAIN + "param i[]", "");
    }

    private static void nextWords(String before, String allowed) {
        for (String word : OWN_WORDS) {
            boolean may = (" " + allowed + " ").contains(" " + word + " ");
            String text = before + word;
            Due.fault(new NetText(), text, 2, may ? text.length() : before.length());
        }
    }

    /** "[ ] round what may be left out, { } round what may be there any number of times". */
    private static void leftOutOrManyTimes() {
        good("", 0);
        good("out 1;".repeat(1000), 2000);
        for (int times = 0; times <= 60; times += times < 3 ? 1 : 19) {
            Due.good(new NetText(), "train bits 8 rate 1" + " until 2 rate 3".repeat(times) + ";", 5 + 4 * times);
            good("block b(a" + ",a".repeat(times) + "){give 1;}", 4 + times);
            good("block b(;a" + ",a".repeat(times) + "){give 1;}", 4 + times);
            good("block b(){" + "let a=1;".repeat(times) + "give 1;}", 3 + 3 * times);
            good("repeat 2{" + "let a=1;".repeat(times) + "}", 3 + 3 * times);
            good("param w[1" + ",1".repeat(times) + "];", 5 + 2 * times);
            good("param w[1" + "+1".repeat(times) + "];", 5 + (times == 0 ? 0 : 1 + times));
            good("param w[1" + "/1".repeat(times) + "];", 5 + (times == 0 ? 0 : 1 + times));
            good("out 1" + "-1".repeat(times) + ";", 2 + (times == 0 ? 0 : 1 + times));
            good("out 1" + "@1".repeat(times) + ";", 2 + (times == 0 ? 0 : 1 + times));
            good("out 1" + "/1".repeat(times) + ";", 2 + (times == 0 ? 0 : 1 + times));
            good("out f(a" + ",a".repeat(times) + ");", 3 + times);
            good("out f([]" + ",[]".repeat(times) + ");", 3 + times);
            good("out f(;1" + ",1".repeat(times) + ");", 4 + 2 * times);
        }
        good("block b(){give 1;}block b(a;c){give 1;}", 8);
        good("param w[];param w[]=1;param w[]~1,1;param w[]=-1/1;", 3 + 5 + 7 + 6);
        good("out f();out f(a;1);", 2 + 5);
        Due.fault(new NetText(), "train bits 8 rate 1 momentum 1 momentum 1;", 2, 31);
        Due.fault(new NetText(), "train bits 8 rate 1 decay 1 decay 1;", 2, 28);
        Due.fault(new NetText(), "train bits 8 rate 1 clip 1 clip 1;", 2, 27);
        fault("param w[]=1=1;", 2, 11);
        fault("param w[]=--1;", 2, 11);
        fault("param w[]=1/1/1;", 2, 13);
        fault("out f(;1;1);", 2, 8);
        fault("block b(;a;a){give 1;}", 2, 10);
        fault("block b(){give 1;give 1;}", 2, 17);
        fault("block b(){}", 2, 10);
    }

    /** "product: .. '/' number", and "factors: .. '/' .. unit": what the first one refuses, the other takes. */
    private static void numberBehindSlash() {
        good("out n/1.5/2*n;", 6);
        fault("out 1/n;", 2, 6);
        fault("out 1/(2);", 2, 6);
        fault("out 1/-2;", 2, 6);
        fault("out 1*2/f();", 2, 8);
        good("param w[n/1.5/2*n];", 9);
        good("param w[1/n];", 7);
        good("param w[1/(2)];", 7);
        good("param w[1/x.2];", 7);
        fault("param w[1/-2];", 2, 10);
    }

    /** "DEPTH: how many brackets ( { [ , and the - of negatives, stand open; at most 30." */
    private static void depthOf30() {
        // The bracket or - behind each $ is the one in question; the number tells how many its own item opens before.
        deepest("let y=$(1);", 0);
        deepest("let y=f$();", 0);
        deepest("let y=$-1;", 0);
        deepest("let y=1+$-1;", 0);
        deepest("let y=1*$-1;", 0);
        deepest("param w$[];", 0);
        deepest("repeat 2${}", 0);
        deepest("repeat $(2){}", 0);
        deepest("let y=f($[]);", 1);
        deepest("let y=f(1,$[]);", 1);
        deepest("let y=f(;$(1));", 1);
        deepest("let y=f($-1);", 1);
        deepest("let y=f($(1));", 1);
        deepest("let y=f(g$());", 1);
        deepest("let y=-$-1;", 1);
        deepest("let y=-$(1);", 1);
        deepest("let y=-f$();", 1);
        deepest("param w[$(1)];", 1);
        deepest("param w[1*$(1)];", 1);
        deepest("let y=f([$(1)]);", 2);
        deepest("let y=-f($[]);", 2);
        deepest("let y=(-($-1));", 3);
        for (int open = 0; open <= 30; open++) {
            String inside = "(".repeat(open) + "-".repeat(30 - open);
            good("let y=" + inside + "1" + ")".repeat(open) + ";", 3 + 30 - open);
        }
        blockDepth();
    }

    private static void deepest(String item, int openBefore) {
        int place = item.indexOf('$');
        String bare = item.replace("$", "");
        int most = 30 - openBefore - 1;
        allowed("repeat 2{".repeat(most) + bare + "}".repeat(most));
        fault("repeat 2{".repeat(most + 1) + bare + "}".repeat(most + 1), 2, 9 * (most + 1) + place);
        // The same with nothing behind the place.
        fault("repeat 2{".repeat(most + 1) + bare.substring(0, place + 1), 2, 9 * (most + 1) + place);
    }

    /** A block's own brackets are the outermost ones, so that only what is in them can be too deep. */
    private static void blockDepth() {
        allowed("block b(a;c){" + "repeat 2{".repeat(29) + "}".repeat(29) + "give 1;}");
        fault("block b(a;c){" + "repeat 2{".repeat(30) + "}".repeat(30) + "give 1;}", 2, 13 + 9 * 29 + 8);
        allowed("block b(){give " + "-".repeat(29) + "1;}");
        fault("block b(){give " + "-".repeat(30) + "1;}", 2, 15 + 29);
        Due.good(new NetText(), "train bits " + "(".repeat(30) + "8" + ")".repeat(30) + " rate 1;", TRAIN_NODES);
        Due.fault(new NetText(), "train bits " + "(".repeat(31) + "8" + ")".repeat(31) + " rate 1;", 2, 41);
    }

    /** ".. stand open": what is closed, or whose factor has ended, counts no more. */
    private static void depthOfWhatIsClosed() {
        String deep = "(".repeat(29) + "-1" + ")".repeat(29);
        good("let y=" + deep + ("+" + deep).repeat(5) + ";", 2 + 1 + 12);
        good("let y=" + deep + ("*" + deep).repeat(5) + ";", 2 + 1 + 12);
        good("let y=-" + "(".repeat(29) + "1" + ")".repeat(29) + "+" + deep + ";", 2 + 1 + 2 + 2);
        good("let y=f(" + deep.substring(1, deep.length() - 1) + "," + deep.substring(1, deep.length() - 1) + ");", 3 + 4);
        fault("let y=" + deep + "+(" + deep + ");", 2, 6 + deep.length() + 2 + 29);
        good("param w[" + "(1),".repeat(100) + "1];", 3 + 202);
        good("out f([],[1])+-f(;1);".repeat(50), 50 * 11);
        good("repeat 1{repeat 1{}repeat 1{}}".repeat(40), 40 * 9);
        good("block b(){give 1;}".repeat(40), 120);
        // Behind a fault the next text begins at depth 0.
        NetText x = new NetText();
        Due.fault(x, TRAIN + "out " + "(".repeat(30), 2, 54);
        Due.good(x, TRAIN + "out " + "(".repeat(30) + "1" + ")".repeat(30) + ";", TRAIN_NODES + 2);
        for (String wrong : new String[] {"(", "f(", "-", "f(;(", "[", "{", "(1", "(1;", "f(1;", "f([1;", "f(;1;"}) {
            for (int times = 1; times <= 31; times += 15) {
                Due.read(x, TRAIN + "out " + wrong.repeat(times));
                Due.fault(x, TRAIN + "out " + "(".repeat(31), 2, 54);
                Due.fault(x, TRAIN + "out " + "-".repeat(31), 2, 54);
                Due.good(x, TRAIN + "out " + "-".repeat(30) + "1;", TRAIN_NODES + 32);
            }
        }
    }

    /** "the - of negatives": the - of a sum, of terms and of a fraction is none. */
    private static void depthOfOtherMinuses() {
        good("let y=" + "(".repeat(30) + "1-2" + ")".repeat(30) + ";", 5);
        fault("let y=" + "(".repeat(30) + "1--2" + ")".repeat(30) + ";", 2, 38);
        good("let y=1" + "-1".repeat(100) + ";", 3 + 101);
        good("param w[" + "(".repeat(29) + "1-2" + ")".repeat(29) + "];", 7);
        good("repeat 2{".repeat(29) + "param w[]=-1;" + "}".repeat(29), 3 * 29 + 5);
        good("let y=" + "-".repeat(30) + "1-2;", 2 + 1 + 31 + 1);
    }

    /** "FAULTS: the first one from the tape's beginning". */
    private static void faultIsTheFirst() {
        fault("let ! = ) 1x", 1, 4);
        fault("let ) = ! 1x", 2, 4);
        fault("let 1x = !", 1, 4);
        fault("let 1 = 1x", 2, 4);
        fault("let " + "n".repeat(41) + " = )", 1, 4);
        fault("let let " + "n".repeat(41), 2, 4);
        fault("out " + "(".repeat(31) + "!", 2, 34);
        fault("out " + "(".repeat(30) + "!(", 1, 34);
        Due.fault(new NetText(), "!", 1, 0);
        Due.fault(new NetText(), ";!", 2, 0);
        Due.fault(new NetText(), " \n!", 1, 2);
    }

    /** "1 no word, or a name or number that is too long, at its first byte". */
    private static void faultOneAtItsFirstByte() {
        fault("out \u0000;", 1, 4);
        fault("out \u00ff;", 1, 4);
        fault("out \u007f;", 1, 4);
        fault("out a$;", 1, 5);
        fault("out " + "n".repeat(41) + ";", 1, 4);
        fault("out #n\n " + "n".repeat(41) + ";", 1, 8);
        fault("out 1234567890;", 1, 4);
        fault("out 0.1234567890;", 1, 4);
        // ".. (for a number also behind which wrong bytes stand)": at the number, not at those.
        fault("out 123.456x;", 1, 4);
        fault("out 123.456.7;", 1, 4);
        fault("out 123_;", 1, 4);
        fault("out 123.;", 1, 4);
    }

    /** "2 a word that can't come there, or that would make the depth 31, at it". */
    private static void faultTwoAtIt() {
        fault("out 1 \n#)\n ) ;", 2, 11);
        fault("out 1 until;", 2, 6);
        fault("out " + "n".repeat(40) + " " + "n".repeat(40) + ";", 2, 45);
        fault("out 1 123456789.123456789;", 2, 6);
        fault("out " + "( ".repeat(31), 2, 64);
        fault("out " + "- ".repeat(31), 2, 64);
        fault("out " + "f ( ".repeat(31), 2, 4 + 30 * 4 + 2);
    }

    /** ".. at the tape's end when that can't come there". */
    private static void faultAtTheTapesEnd() {
        Due.fault(new NetText(), "", 2, 0);
        Due.fault(new NetText(), " ", 2, 1);
        Due.fault(new NetText(), "#", 2, 1);
        Due.fault(new NetText(), "train bits 8 rate 1", 2, 19);
        Due.fault(new NetText(), "train bits 8 rate 1 ", 2, 20);
        Due.fault(new NetText(), "train bits 8 rate 1#;", 2, 21);
        good("", 0);
        good(" # no more", 0);
        fault("out", 2, 3);
        fault("out 1", 2, 5);
        fault("repeat 2{", 2, 9);
        fault("block b(){give 1;", 2, 17);
        fault("out " + "(".repeat(30), 2, 34);
        fault("out n", 2, 5);
        fault("out n #\n\n", 2, 9);
    }

    /** "(a terms, factors, sum or product of one piece alone is none: the piece stands for it)". */
    private static void rowsOfOnePiece() {
        rowKinds("param w[1];", "6 15 10 11 16");
        rowKinds("param w[1+1];", "6 15 10 11 12 16 16");
        rowKinds("param w[1*1];", "6 15 10 11 13 16 16");
        rowKinds("param w[1*1+1];", "6 15 10 11 12 13 16 16 16");
        rowKinds("param w[((1))];", "6 15 10 11 16");
        rowKinds("param w[((1)+(1))];", "6 15 10 11 12 16 16");
        rowKinds("param w[((1*1))];", "6 15 10 11 13 16 16");
        rowKinds("param w[x.1];", "6 15 10 11 14");
        rowKinds("out 1;", "4 16");
        rowKinds("out 1+1;", "4 17 16 16");
        rowKinds("out 1-1;", "4 17 16 16");
        rowKinds("out 1*1;", "4 18 16 16");
        rowKinds("out 1@1;", "4 18 16 16");
        rowKinds("out 1/1;", "4 18 16 16");
        rowKinds("out 1*1+1;", "4 17 18 16 16 16");
        rowKinds("out 1+1*1;", "4 17 16 18 16 16");
        rowKinds("out ((1));", "4 16");
        rowKinds("out ((1*1));", "4 18 16 16");
        rowKinds("out ((1+1));", "4 17 16 16");
        rowKinds("out (1+1)+1;", "4 17 17 16 16 16");
        rowKinds("out (1*1)*1;", "4 18 18 16 16 16");
        rowKinds("out -(1);", "4 19 16");
        rowKinds("out -1;", "4 19 16");
        rowKinds("out -1*1;", "4 18 19 16 16");
        rowKinds("out f(1);", "4 20 16");
        rowKinds("out f(1+1;1+1);", "4 20 17 16 16 11 12 16 16");
    }

    private static void rowKinds(String items, String kinds) {
        NetText x = new NetText();
        String[] due = kinds.split(" ");
        Due.good(x, TRAIN + items, TRAIN_NODES + due.length);
        for (int i = 0; i < due.length; i++) {
            int n = TRAIN_NODES + i;
            Due.answers("kind(" + n + ") of " + items, () -> x.kind(n), Long.parseLong(due[n - TRAIN_NODES]));
        }
    }

    /** "(A name that is called, a block's own name behind 'block', and the name of a side, is no node ..)". */
    private static void namesThatAreNoNodes() {
        rowKinds("out f;", "4 15");
        rowKinds("out f();", "4 20");
        rowKinds("out f(f);", "4 20 15");
        rowKinds("block f(){give f;}", "5 21 15");
        rowKinds("block f(f;f){give f();}", "5 15 15 21 20");
        rowKinds("param f[f];", "6 15 10 11 15");
        rowKinds("param f[f.1];", "6 15 10 11 14");
        rowKinds("param f[f.1*1];", "6 15 10 11 13 14 16");
    }

    /** "They are numbered from 0 on in the order in which they begin, one before what is in it." */
    private static void orderOfNodes() {
        String items = "let y=((a)*b+(c@(d-e)))/2-f(-(g*h),[1+2*(3-n),x.0];(4)*5,6);"
                + "block b(a;c){repeat c*2{param w[c]~-1/2,(3);}give ((a));}";
        NetText x = new NetText();
        int count = Due.read(x, TRAIN + items);
        Due.same("read() is a fault", Math.min(0, count), 0);
        Due.same("kind(0)", x.kind(0), 0);
        for (int n = 1; n < count; n++) {
            Due.same("begin(" + n + ") is before that of the node before it", x.begin(n) < x.begin(n - 1) ? 1 : 0, 0);
            Due.same("parent(" + n + ") is not before it", x.parent(n) >= n ? 1 : 0, 0);
            boolean sameBegin = x.begin(n) == x.begin(n - 1);
            Due.same("node " + n + " begins with one that it is not in", sameBegin && x.parent(n) != n - 1 ? 1 : 0, 0);
        }
    }

    /** "The PARENT of a node is the innermost one that it is in." */
    private static void innermostParent() {
        NetText x = new NetText();
        Due.good(x, TRAIN + "out 1+f(2*-g(;3+x.4*5));", TRAIN_NODES + 14);
        for (int n = 6; n <= 18; n++) {
            int node = n;
            // out sum 1 f product 2 negative g whole terms 3 factors x.4 5
            int[] due = {5, 6, 6, 8, 9, 9, 11, 12, 13, 14, 14, 16, 16};
            Due.answers("parent(" + n + ")", () -> x.parent(node), due[n - 6]);
        }
    }
}
