import java.lang.reflect.Constructor;
import java.lang.reflect.Field;
import java.lang.reflect.Method;
import java.lang.reflect.Modifier;
import java.util.Arrays;
import java.util.Random;
import java.util.TreeSet;

/** The public face as the document writes it, and that no call throws anything but what is promised. */
public final class FaceTest {
    private static final String[] FACE = {
        "public static final int NetText.NONE",
        "public NetText()",
        "public int NetText.feed(int,int,int,int,int) throws java.lang.IllegalStateException",
        "public void NetText.end(int) throws java.lang.IllegalArgumentException",
        "public int NetText.read()",
        "public int NetText.place()",
        "public int NetText.kind(int) throws java.lang.IndexOutOfBoundsException",
        "public int NetText.begin(int) throws java.lang.IndexOutOfBoundsException",
        "public int NetText.parent(int) throws java.lang.IndexOutOfBoundsException",
        "public int NetText.sign(int) throws java.lang.IndexOutOfBoundsException",
        "public int NetText.nameLength(int) throws java.lang.IndexOutOfBoundsException",
        "public int NetText.nameAt(int,int) throws java.lang.IndexOutOfBoundsException",
        "public long NetText.digits(int) throws java.lang.IndexOutOfBoundsException",
        "public int NetText.behind(int) throws java.lang.IndexOutOfBoundsException",
        "public int NetText.depth(int) throws java.lang.IndexOutOfBoundsException",
    };
    private static final String PIECES = "train bits 1 rate 2; # let f(x;3) = -a*[b.0]+{};\n~,/@ block give repeat 123456789 !\u00ff";

    private FaceTest() {
    }

    public static void main(String[] args) {
        theFace();
        anyCalls();
        Due.finish();
    }

    private static void theFace() {
        TreeSet<String> found = new TreeSet<>();
        for (Field field : NetText.class.getDeclaredFields()) {
            addOpen(found, field.getModifiers(), field.toString());
        }
        for (Constructor<?> made : NetText.class.getDeclaredConstructors()) {
            addOpen(found, made.getModifiers(), made.toString());
        }
        for (Method method : NetText.class.getDeclaredMethods()) {
            addOpen(found, method.getModifiers(), method.toString());
        }
        TreeSet<String> due = new TreeSet<>(Arrays.asList(FACE));
        Due.same("the face is " + found + " and so", found.equals(due) ? 0 : 1, 0);
        Due.same("final", Modifier.isFinal(NetText.class.getModifiers()) ? 1 : 0, 1);
        for (Class<?> inside : NetText.class.getDeclaredClasses()) {
            int modifiers = inside.getModifiers();
            boolean right = Modifier.isStatic(modifiers) && !Modifier.isPublic(modifiers) && !Modifier.isProtected(modifiers);
            Due.same(inside + " is static and not open", right ? 1 : 0, 1);
        }
    }

    private static void addOpen(TreeSet<String> found, int modifiers, String text) {
        if (!Modifier.isPrivate(modifiers)) {
            found.add(text);
        }
    }

    private static void anyCalls() {
        Random random = new Random(7);
        for (int run = 0; run < 400; run++) {
            NetText x = new NetText();
            for (int call = 0; call < 512; call++) {
                anyCall(x, random);
            }
        }
    }

    private static void anyCall(NetText x, Random random) {
        int choice = random.nextInt(16);
        int n = random.nextInt(4) == 0 ? random.nextInt() : random.nextInt(20) - 3;
        int k = random.nextInt(8) - 2;
        try {
            switch (choice) {
                case 0 -> x.read();
                case 1 -> x.end(random.nextInt(60) - 3);
                case 2 -> x.place();
                case 3 -> x.kind(n);
                case 4 -> x.begin(n);
                case 5 -> x.parent(n);
                case 6 -> x.sign(n);
                case 7 -> x.nameLength(n);
                case 8 -> x.nameAt(n, k);
                case 9 -> x.digits(n);
                case 10 -> x.behind(n);
                case 11 -> x.depth(n);
                case 12 -> Due.feed(x, "train bits 1 rate 2;");
                default -> feedAny(x, random);
            }
        } catch (RuntimeException thrown) {
            Class<?> due = choice == 1 ? IllegalArgumentException.class : IndexOutOfBoundsException.class;
            boolean mayThrow = choice == 1 || choice >= 3 && choice <= 11;
            Due.same("call " + choice + " threw " + thrown, mayThrow && thrown.getClass() == due ? 1 : 0, 1);
        }
    }

    private static void feedAny(NetText x, Random random) {
        StringBuilder text = new StringBuilder();
        for (int i = random.nextInt(5); i >= 0; i--) {
            int from = random.nextInt(PIECES.length());
            text.append(PIECES, from, Math.min(PIECES.length(), from + random.nextInt(12)));
        }
        Due.feed(x, text.toString());
    }
}
