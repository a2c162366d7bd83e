/** Promises 4 and 5: which fault is the first one, and where, written out by hand. */
public final class FaultTest {
    private static final String TRAIN = "train bits 8 rate 1;";

    private FaultTest() {
    }

    public static void main(String[] args) {
        blanksAndComments();
        names();
        numbers();
        noWords();
        trainRule();
        itemRules();
        blockRule();
        statementRules();
        wholeRules();
        sumRules();
        callRule();
        firstOfSeveral();
        tapeEnds();
        depthOfBrackets();
        depthOfNegatives();
        depthOfOthers();
        wordsOfTheirOwn();
        Due.finish();
    }

    private static NetText fresh() {
        return new NetText();
    }

    /** A fault in what stands behind a good train; its place is counted from there. */
    private static void fault(String items, int number, int place) {
        Due.fault(fresh(), TRAIN + items, number, TRAIN.length() + place);
    }

    /** The number of nodes is counted without the five of the train. */
    private static void good(String items, int nodes) {
        Due.good(fresh(), TRAIN + items, 5 + nodes);
    }

    private static void blanksAndComments() {
        Due.good(fresh(), "\t\n\r train\tbits\n8\rrate 1\t;\n", 5);
        Due.good(fresh(), "#\n##a#b\rc!\u00ff\0\ntrain#\nbits#x\n8#\nrate#\n1#\n;#", 5);
        Due.fault(fresh(), "# train bits 8 rate 1;", 2, 22);
        Due.fault(fresh(), "#\rtrain bits 8 rate 1;", 2, 22);
        Due.fault(fresh(), "train# bits\r8 rate 1;", 2, 21);
        Due.fault(fresh(), "train\u000bbits 8 rate 1;", 1, 5);
        Due.fault(fresh(), "train\u000cbits 8 rate 1;", 1, 5);
        Due.fault(fresh(), "train\u00a0bits 8 rate 1;", 1, 5);
        Due.fault(fresh(), "trainbits 8 rate 1;", 2, 0);
        Due.good(fresh(), "train bits(8)rate 1;", 5);
    }

    private static void names() {
        String forty = "_aZ9".repeat(10);
        good("let " + forty + "=" + forty + ";", 3);
        good("let _ = A;", 3);
        fault("let " + forty + "0=1;", 1, 4);
        fault("let a = " + forty + "_;", 1, 8);
        fault("let a = " + "z".repeat(3000) + ";", 1, 8);
        fault("let 9a = 1;", 1, 4);
        fault("let a\u00e9 = 1;", 1, 5);
        fault("let Let = 1; Let", 2, 13);
    }

    private static void numbers() {
        good("let a=123456789.123456789;", 3);
        good("let a=000000000;", 3);
        good("let a=0.000000000;", 3);
        fault("let a=0000000000;", 1, 6);
        fault("let a=0.0000000000;", 1, 6);
        fault("let a=1.;", 1, 6);
        fault("let a=1. 5;", 1, 6);
        fault("let a=1 .5;", 2, 8);
        fault("let a=1..5;", 1, 6);
        fault("let a=1.5.;", 1, 6);
        fault("let a=1.5.5;", 1, 6);
        fault("let a=1.x;", 1, 6);
        fault("let a=1.5x;", 1, 6);
        fault("let a=1_;", 1, 6);
        fault("let a=1Z;", 1, 6);
        fault("let a=1.", 1, 6);
        fault("let a=1.5_", 1, 6);
        fault("let a=.5;", 2, 6);
        fault("let a=12345678901234567890123;", 1, 6);
        fault("let a=1!;", 1, 7);
        fault("let a=1\u00e9;", 1, 7);
        good("let a=1#;\n;", 3);
        good("let a=1+2;", 5);
        good("let a=(1);", 3);
        good("param w[x.1.2];", 5);
        fault("param w[x.1.2.3];", 1, 10);
        fault("param w[x.1.];", 1, 10);
        fault("param w[x..1];", 2, 10);
        good("param w[x . # y\n 1];", 5);
    }

    private static void noWords() {
        String signs = "+-*@/()[]{},;=.~";
        for (int b = 0; b < 256; b++) {
            boolean digit = b >= '0' && b <= '9';
            boolean letter = b >= 'a' && b <= 'z' || b >= 'A' && b <= 'Z' || b == '_';
            boolean blank = b == 9 || b == 10 || b == 13 || b == 32 || b == '#';
            boolean word = digit || letter || signs.indexOf(b) >= 0;
            String text = TRAIN + (char) b;
            if (blank) {
                Due.good(fresh(), text, 5);
            } else {
                Due.fault(fresh(), text, word ? 2 : 1, 20);
            }
        }
    }

    private static void trainRule() {
        Due.fault(fresh(), "", 2, 0);
        Due.fault(fresh(), "let a=1;", 2, 0);
        Due.fault(fresh(), "bits 8 rate 1;", 2, 0);
        Due.fault(fresh(), "train rate 1;", 2, 6);
        Due.fault(fresh(), "train bits rate 1;", 2, 11);
        Due.fault(fresh(), "train bits 8;", 2, 12);
        Due.fault(fresh(), "train bits 8 rate;", 2, 17);
        Due.fault(fresh(), "train bits 8 rate a;", 2, 18);
        Due.fault(fresh(), "train bits 8 rate (1);", 2, 18);
        Due.fault(fresh(), "train bits 8 rate --1;", 2, 19);
        Due.fault(fresh(), "train bits 8 rate 1/-2;", 2, 20);
        Due.fault(fresh(), "train bits 8 rate 1/2/3;", 2, 21);
        Due.fault(fresh(), "train bits 8 rate 1 until rate 2;", 2, 26);
        Due.fault(fresh(), "train bits 8 rate 1 until 2;", 2, 27);
        Due.fault(fresh(), "train bits 8 rate 1 momentum 2 until 3 rate 4;", 2, 31);
        Due.fault(fresh(), "train bits 8 rate 1 decay 2 momentum 3;", 2, 28);
        Due.fault(fresh(), "train bits 8 rate 1 clip 2 clip 3;", 2, 27);
        Due.fault(fresh(), "train bits 8 rate 1 clip;", 2, 24);
        Due.fault(fresh(), TRAIN + TRAIN, 2, 20);
        Due.fault(fresh(), TRAIN + ";", 2, 20);
        Due.good(fresh(), "train bits a+b rate -1/2 until c.1 rate 3 until 4 rate -5 momentum 6/7 decay -8 clip 9;", 23);
        Due.good(fresh(), "train bits 1 rate 1 decay 2;", 7);
        Due.good(fresh(), "train bits 1 rate 1 momentum 1 clip 2;", 9);
    }

    private static void itemRules() {
        good("input a [];", 3);
        good("input a [1,2];", 7);
        fault("input [];", 2, 6);
        fault("input a;", 2, 7);
        fault("input a [] []", 2, 11);
        fault("input 1 [];", 2, 6);
        fault("input a [] = 1;", 2, 11);
        good("index a [] below 3;", 5);
        fault("index a [];", 2, 10);
        fault("index a below 3;", 2, 8);
        fault("index a [] below;", 2, 16);
        fault("index a [] below -1;", 2, 17);
        good("loss a; out b; loss a; out b;", 8);
        fault("loss;", 2, 4);
        fault("loss a, b;", 2, 6);
        fault("out [1];", 2, 4);
        fault("give a;", 2, 0);
        fault("a;", 2, 0);
        fault("}", 2, 0);
    }

    private static void blockRule() {
        good("block b() { give 1; }", 3);
        good("block b(a) { give 1; }", 4);
        good("block b(;a) { give 1; }", 4);
        good("block b(a,b;c,d) { let e=1; param f[]; repeat 2 { } give 1; }", 16);
        fault("block () { give 1; }", 2, 6);
        fault("block b { give 1; }", 2, 8);
        fault("block b(1) { give 1; }", 2, 8);
        fault("block b(let) { give 1; }", 2, 8);
        fault("block b(a,) { give 1; }", 2, 10);
        fault("block b(,a) { give 1; }", 2, 8);
        fault("block b(;) { give 1; }", 2, 9);
        fault("block b(a;) { give 1; }", 2, 10);
        fault("block b(a;c;d) { give 1; }", 2, 11);
        fault("block b(a b) { give 1; }", 2, 10);
        fault("block b() give 1;", 2, 10);
        fault("block b() { }", 2, 12);
        fault("block b() { give 1; give 2; }", 2, 20);
        fault("block b() { give 1; let a=1; }", 2, 20);
        fault("block b() { input a []; give 1; }", 2, 12);
        fault("block b() { block c() { give 1; } give 1; }", 2, 12);
        fault("block b() { loss 1; give 1; }", 2, 12);
        fault("repeat 2 { block b() { give 1; } }", 2, 11);
        fault("block block() { give 1; }", 2, 6);
    }

    private static void statementRules() {
        good("param a [];", 3);
        good("param a [] = 1;", 5);
        good("param a [] = -1/2;", 6);
        good("param a [] ~ 1, 2;", 7);
        fault("param a;", 2, 7);
        fault("param a [] 1;", 2, 11);
        fault("param a [] = ;", 2, 13);
        fault("param a [] = b;", 2, 13);
        fault("param a [] = 1, 2;", 2, 14);
        fault("param a [] = 1*2;", 2, 14);
        fault("param a [] ~ 1;", 2, 14);
        fault("param a [] ~ 1,;", 2, 15);
        fault("param a [] ~ 1, -2;", 2, 16);
        fault("param a [] = 1 ~ 1, 2;", 2, 15);
        fault("let = 1;", 2, 4);
        fault("let a 1;", 2, 6);
        fault("let a.1 = 1;", 2, 5);
        fault("let a = ;", 2, 8);
        fault("let a = 1", 2, 9);
        fault("let a = 1 let", 2, 10);
        good("repeat 2 {}", 3);
        good("repeat n { repeat x.0 { let a=1; } param b[]; }", 12);
        fault("repeat { }", 2, 7);
        fault("repeat -1 { }", 2, 7);
        fault("repeat 2;", 2, 8);
        fault("repeat 2 { give 1; }", 2, 11);
        fault("repeat 2 { out 1; }", 2, 11);
        fault("repeat 2 { index a [] below 1; }", 2, 11);
        fault("repeat 2 { let a=1 }", 2, 19);
        fault("repeat 2 { };", 2, 12);
    }

    private static void wholeRules() {
        good("param a [1+2-3*4/5,(b),((c.0)),(1+2)*3/d];", 22);
        fault("param a [,1];", 2, 9);
        fault("param a [1,];", 2, 11);
        fault("param a [1;2];", 2, 10);
        fault("param a [1 2];", 2, 11);
        fault("param a [-1];", 2, 9);
        fault("param a [1+];", 2, 11);
        fault("param a [1+-2];", 2, 11);
        fault("param a [1*];", 2, 11);
        fault("param a [1@2];", 2, 10);
        fault("param a [()];", 2, 10);
        fault("param a [(1];", 2, 11);
        fault("param a [b(1)];", 2, 10);
        fault("param a [[1]];", 2, 9);
        fault("param a [b.c];", 2, 11);
        fault("param a [b.];", 2, 11);
        fault("param a [(b).1];", 2, 12);
        fault("param a [let];", 2, 9);
        fault("param a [let.1];", 2, 9);
        fault("param a (1);", 2, 8);
    }

    private static void sumRules() {
        good("let a = 1/2/3*b@c;", 8);
        good("let a = --b---c;", 9);
        good("let a = -(-(b));", 5);
        fault("let a = +1;", 2, 8);
        fault("let a = 1+;", 2, 10);
        fault("let a = 1++2;", 2, 10);
        fault("let a = 1*;", 2, 10);
        fault("let a = *1;", 2, 8);
        fault("let a = 1**2;", 2, 10);
        fault("let a = 1/;", 2, 10);
        fault("let a = 1/b;", 2, 10);
        fault("let a = 1/-2;", 2, 10);
        fault("let a = 1/(2);", 2, 10);
        fault("let a = -;", 2, 9);
        fault("let a = ();", 2, 9);
        fault("let a = (1;", 2, 10);
        fault("let a = 1);", 2, 9);
        fault("let a = (1];", 2, 10);
        fault("let a = b.1;", 2, 9);
        fault("let a = [1];", 2, 8);
        fault("let a = b c;", 2, 10);
        fault("let a = 1(2);", 2, 9);
        fault("let a = (b)(c);", 2, 11);
        fault("let a = rate;", 2, 8);
        fault("let a = {1};", 2, 8);
        fault("let a = b = c;", 2, 10);
        fault("let a = ~b;", 2, 8);
    }

    private static void callRule() {
        good("let a = f();", 3);
        good("let a = f(b,-c,[],[1],g(d);1,n+1);", 18);
        good("let a = f(;1);", 5);
        good("let a = f([];x.1);", 6);
        fault("let a = f(;);", 2, 11);
        fault("let a = f(b;);", 2, 12);
        fault("let a = f(,b);", 2, 10);
        fault("let a = f(b,);", 2, 12);
        fault("let a = f(b;1;2);", 2, 13);
        fault("let a = f(b;-1);", 2, 12);
        fault("let a = f(b;g(1));", 2, 13);
        fault("let a = f(b;[1]);", 2, 12);
        fault("let a = f(b c);", 2, 12);
        fault("let a = f([1]+2);", 2, 13);
        fault("let a = f(2+[1]);", 2, 12);
        fault("let a = f(b;1,);", 2, 14);
        fault("let a = f(b", 2, 11);
        fault("let a = f()();", 2, 11);
        fault("let a = out();", 2, 8);
    }

    private static void firstOfSeveral() {
        fault("let ! 1x", 1, 4);
        fault("let let !", 2, 4);
        fault("let a = ) 1x;", 2, 8);
        fault("let a = 1x );", 1, 8);
        fault("let a ; \u0001", 2, 6);
        fault(") " + "a".repeat(41), 2, 0);
        fault("a".repeat(41) + " )", 1, 0);
        Due.fault(fresh(), "!", 1, 0);
        Due.fault(fresh(), "a!", 2, 0);
    }

    /** A good text cut anywhere but behind an item ends where something else is due. */
    private static void tapeEnds() {
        String whole = "train bits 8 rate 1/2 clip 3 ; block b ( c ; d ) { give - c @ f ( [ d . 0 ] ; 1 ) ; } out 1 ; ";
        NetText x = fresh();
        for (int i = 0; i <= whole.length(); i++) {
            String cut = whole.substring(0, i);
            String bare = cut.trim();
            boolean full = bare.endsWith("3 ;") || bare.endsWith("}") || bare.endsWith("out 1 ;");
            boolean inWord = i > 0 && i < whole.length() && whole.charAt(i - 1) != ' ' && whole.charAt(i) != ' ';
            if (full) {
                Due.same("read() of " + cut, Math.min(0, Due.read(x, cut)), 0);
            } else if (!inWord) {
                Due.fault(x, cut, 2, i);
                Due.fault(x, cut + " # more", 2, i + 7);
            }
        }
    }

    private static void depthOfBrackets() {
        good("let a=" + "(".repeat(30) + "b" + ")".repeat(30) + ";", 3);
        fault("let a=" + "(".repeat(31) + "b" + ")".repeat(31) + ";", 2, 36);
        fault("let a=" + "(".repeat(31) + "!", 2, 36);
        fault("let a=" + "(".repeat(30) + "!", 1, 36);
        good("param a[" + "(".repeat(29) + "b" + ")".repeat(29) + "];", 5);
        fault("param a[" + "(".repeat(30) + "b" + ")".repeat(30) + "];", 2, 37);
        good("let a=" + "f(".repeat(30) + ")".repeat(30) + ";", 32);
        fault("let a=" + "f(".repeat(31) + ")".repeat(31) + ";", 2, 67);
    }

    private static void depthOfNegatives() {
        good("let a=" + "-".repeat(30) + "b;", 33);
        fault("let a=" + "-".repeat(31) + "b;", 2, 36);
        good("let a=" + "-".repeat(30) + "b-" + "-".repeat(30) + "c;", 65);
        fault("let a=" + "-".repeat(30) + "b-" + "-".repeat(31) + "c;", 2, 68);
        fault("let a=" + "-".repeat(30) + "f();", 2, 37);
        good("let a=" + "-".repeat(29) + "f();", 32);
        fault("let a=" + "-".repeat(30) + "(b);", 2, 36);
        good("let a=" + "(".repeat(30) + "b-c" + ")".repeat(30) + ";", 5);
        fault("let a=" + "(".repeat(30) + "-c" + ")".repeat(30) + ";", 2, 36);
        fault("let a=" + "(".repeat(30) + "b--c" + ")".repeat(30) + ";", 2, 38);
        good("let a=" + "(".repeat(29) + "-b*-c" + ")".repeat(29) + ";", 7);
        good("let a=" + "(".repeat(29) + "-b*f(c)" + ")".repeat(29) + ";", 7);
    }

    private static void depthOfOthers() {
        good("repeat 1{".repeat(30) + "}".repeat(30), 90);
        fault("repeat 1{".repeat(31) + "}".repeat(31), 2, 278);
        good("repeat 1{".repeat(29) + "param a[]=-1;" + "}".repeat(29), 87 + 5);
        good("repeat 1{".repeat(30) + "let a=b;" + "}".repeat(30), 93);
        fault("repeat 1{".repeat(30) + "param a[]=-1;" + "}".repeat(30), 2, 277);
        fault("repeat 1{".repeat(30) + "let a=-b;" + "}".repeat(30), 2, 276);
        good("block b(){give " + "(".repeat(29) + "1" + ")".repeat(29) + ";}", 3);
        fault("block b(){give " + "(".repeat(30) + "1" + ")".repeat(30) + ";}", 2, 44);
        fault("let a=" + "(".repeat(30) + "f([])" + ")".repeat(30) + ";", 2, 37);
        fault("let a=" + "(".repeat(29) + "f([1])" + ")".repeat(29) + ";", 2, 37);
        good("let a=" + "f(".repeat(30) + ";1" + ")".repeat(30) + ";", 34);
        fault("let a=" + "f(".repeat(30) + ";(1)" + ")".repeat(30) + ";", 2, 67);
        // What is closed counts no more.
        good("let a=(b);".repeat(40), 120);
        good("let a=" + "(b)+".repeat(40) + "-c;", 2 + 1 + 42);
    }

    private static void wordsOfTheirOwn() {
        String all = "param input index let loss out block give repeat train below bits rate until momentum decay clip";
        for (String word : all.split(" ")) {
            fault("let a = " + word + ";", 2, 8);
            fault("let " + word + " = 1;", 2, 4);
            fault("param a [" + word + "];", 2, 9);
            good("let " + word + "s = " + word + "_;", 3);
            good("let " + word.substring(1) + " = 1;", 3);
            good("let " + word.toUpperCase() + " = 1;", 3);
            good("let x" + word + " = 1;", 3);
        }
    }
}
