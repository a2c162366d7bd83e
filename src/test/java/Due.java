/** What the tests share: feeding a text, comparing answers, and ending with exit code 1 after a wrong one. */
final class Due {
    private static int calls = 0;
    private static int wrong = 0;

    private Due() {
    }

    interface Call {
        long answer();
    }

    static void same(String call, long got, long want) {
        calls++;
        if (got != want) {
            wrong++;
            System.out.println(call + " answered " + got + ", due is " + want);
        }
    }

    static void answers(String call, Call made, long want) {
        try {
            same(call, made.answer(), want);
        } catch (RuntimeException thrown) {
            same(call + " threw " + thrown + " and so", 1, 0);
        }
    }

    static void refuses(String call, Class<? extends RuntimeException> due, Call made) {
        try {
            same(call + " is due to throw " + due.getName() + ", but it", made.answer(), Long.MIN_VALUE);
        } catch (RuntimeException thrown) {
            // The machine's own exceptions are of classes below these, so the class must be the very one.
            same(call + " threw " + thrown + ", so it", thrown.getClass() == due ? 0 : 1, 0);
        }
    }

    /** The text, each character a byte, put on the tape in twenties and cut to its length. */
    static void feed(NetText x, String text) {
        int before = x.feed(0, 0, 0, 0, 0) - 20;
        x.end(before);
        int[] five = new int[5];
        for (int from = 0; from < text.length(); from += 20) {
            for (int i = 0; i < 5; i++) {
                five[i] = four(text, from + 4 * i);
            }
            x.feed(five[0], five[1], five[2], five[3], five[4]);
        }
        x.end(before + text.length());
    }

    private static int four(String text, int from) {
        int four = 0;
        for (int i = from; i < from + 4; i++) {
            four = four << 8 | (i < text.length() ? text.charAt(i) & 255 : 0);
        }
        return four;
    }

    static int read(NetText x, String text) {
        feed(x, text);
        return x.read();
    }

    /** Reads the text and compares the fault, both its number and its place. */
    static void fault(NetText x, String text, int number, int place) {
        same("read() of " + text, read(x, text), number - 100);
        same("place() behind " + text, x.place(), place);
        refuses("kind(0) behind " + text, IndexOutOfBoundsException.class, () -> x.kind(0));
    }

    static void good(NetText x, String text, int nodes) {
        same("read() of " + text, read(x, text), nodes);
        same("place() behind " + text, x.place(), NetText.NONE);
    }

    static void finish() {
        System.out.println(calls + " answers looked at, " + wrong + " not as due");
        if (wrong != 0) {
            System.exit(1);
        }
    }
}
