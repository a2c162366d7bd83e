/** Promises 1 to 3, and what read() leaves of the tape (4). */
public final class TapeTest {
    private static final String TRAIN = "train bits 8 rate 1;";

    private TapeTest() {
    }

    public static void main(String[] args) {
        newObject();
        feedCounts();
        highestByteFirst();
        tapeLimit();
        endKeeps();
        endRefuses();
        readEmptiesTheTape();
        nodesStayWhileTheTapeIsFed();
        Due.finish();
    }

    private static void newObject() {
        NetText x = new NetText();
        Due.same("NONE", NetText.NONE, -1);
        Due.same("place() of a new object", x.place(), -1);
        Due.refuses("kind(0) of a new object", IndexOutOfBoundsException.class, () -> x.kind(0));
        Due.refuses("end(1) of a new object", IllegalArgumentException.class, () -> end(x, 1));
        Due.answers("end(0) of a new object", () -> end(x, 0), 0);
        Due.same("the first feed", x.feed(1, 2, 3, 4, 5), 20);
        Due.same("read() of a new object", new NetText().read(), -98);
    }

    private static void feedCounts() {
        NetText x = new NetText();
        for (int i = 1; i <= 500; i++) {
            Due.same("feed " + i, x.feed(i, -i, 0, -1, Integer.MIN_VALUE), 20 * i);
        }
    }

    private static void highestByteFirst() {
        NetText x = new NetText();
        // "trai" "n bi" "ts 8" " rat" "e 1;"
        x.feed(0x74726169, 0x6e206269, 0x74732038, 0x20726174, 0x6520313b);
        Due.same("read() of 20 bytes", x.read(), 5);
        // Bytes above 127 arrive whole: the first one of the second feed is no word.
        Due.feed(x, TRAIN);
        x.feed(0xff000000, 0, 0, 0, 0);
        Due.same("read() of byte 255", x.read(), -99);
        Due.same("place() of byte 255", x.place(), 20);
    }

    private static void tapeLimit() {
        NetText x = new NetText();
        for (int i = 0; i < 3276; i++) {
            x.feed(0x20202020, 0x20202020, 0x20202020, 0x20202020, 0x20202020);
        }
        Due.refuses("feed beyond 65536", IllegalStateException.class, () -> x.feed(0, 0, 0, 0, 0));
        Due.answers("end(65520)", () -> end(x, 65520), 0);
        Due.refuses("end(65521)", IllegalArgumentException.class, () -> end(x, 65521));
        x.end(65517);
        Due.refuses("feed to 65537", IllegalStateException.class, () -> x.feed(0, 0, 0, 0, 0));
        x.end(65516);
        Due.answers("feed to 65536", () -> x.feed(0x20202020, 0x20202020, 0x20202020, 0x20202020, 0x20202020), 65536);
        Due.same("read() of 65536 blanks", x.read(), -98);
        Due.same("place() behind 65536 blanks", x.place(), 65536);
        Due.same("feed behind it", x.feed(0, 0, 0, 0, 0), 20);
    }

    private static void endKeeps() {
        NetText x = new NetText();
        Due.feed(x, TRAIN + "out x;!!!!");
        x.end(26);
        Due.same("read() of the first 26 bytes", x.read(), 7);
        Due.feed(x, TRAIN + "out x;!!!!");
        x.end(27);
        Due.same("read() of the first 27 bytes", x.read(), -99);
        Due.same("place() in the first 27 bytes", x.place(), 26);
        Due.feed(x, TRAIN);
        x.end(20);
        Due.same("feed behind end(20)", x.feed(0x6f757420, 0x783b2020, 0x20202020, 0x20202020, 0x20202020), 40);
        Due.same("read() of both", x.read(), 7);
        Due.feed(x, TRAIN);
        x.end(0);
        Due.same("read() behind end(0)", x.read(), -98);
        Due.same("place() behind end(0)", x.place(), 0);
    }

    private static void endRefuses() {
        NetText x = new NetText();
        Due.feed(x, TRAIN);
        Due.refuses("end(-1)", IllegalArgumentException.class, () -> end(x, -1));
        Due.refuses("end(least)", IllegalArgumentException.class, () -> end(x, Integer.MIN_VALUE));
        Due.refuses("end(21)", IllegalArgumentException.class, () -> end(x, 21));
        Due.refuses("end(greatest)", IllegalArgumentException.class, () -> end(x, Integer.MAX_VALUE));
        Due.same("read() behind refused ends", x.read(), 5);
        Due.refuses("end(1) behind read()", IllegalArgumentException.class, () -> end(x, 1));
    }

    private static void readEmptiesTheTape() {
        NetText x = new NetText();
        Due.good(x, TRAIN, 5);
        Due.same("feed behind a good read()", x.feed(0, 0, 0, 0, 0), 20);
        Due.same("read() of byte 0", x.read(), -99);
        Due.same("feed behind a fault", x.feed(0, 0, 0, 0, 0), 20);
        x.end(0);
        Due.fault(x, "", 2, 0);
        Due.good(x, TRAIN, 5);
    }

    private static void nodesStayWhileTheTapeIsFed() {
        NetText x = new NetText();
        Due.good(x, TRAIN + "let abc = 12.5;", 8);
        for (int i = 0; i < 200; i++) {
            x.feed(-1, -1, -1, -1, -1);
        }
        x.end(7);
        Due.same("nameLength(6)", x.nameLength(6), 3);
        Due.same("nameAt(6, 2)", x.nameAt(6, 2), 'c');
        Due.same("digits(7)", x.digits(7), 125);
        Due.same("behind(7)", x.behind(7), 1);
        Due.same("begin(7)", x.begin(7), 30);
        Due.same("place()", x.place(), -1);
        Due.same("read()", x.read(), -99);
        Due.same("place() then", x.place(), 0);
        Due.refuses("kind(0) then", IndexOutOfBoundsException.class, () -> x.kind(0));
        x.feed(0, 0, 0, 0, 0);
        Due.same("place() while the tape is fed", x.place(), 0);
    }

    private static long end(NetText x, int n) {
        x.end(n);
        return 0;
    }
}
