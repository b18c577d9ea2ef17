import java.lang.reflect.InvocationTargetException;
import java.lang.reflect.Method;
import java.nio.charset.StandardCharsets;
import java.util.Arrays;
import java.util.Comparator;

/** What the tests share: feeding texts, and telling what is not as due. */
final class Check {
    private int asDue;
    private int wrong;
    private String promise = "";

    void promise(String name) {
        promise = name;
    }

    void due(String what, long got, long want) {
        if (got == want) {
            asDue++;
            return;
        }
        wrong++;
        System.out.println(promise + ": " + what + " answered " + got + ", due is " + want);
    }

    void due(String what, boolean got, boolean want) {
        due(what, got ? 1 : 0, want ? 1 : 0);
    }

    /** A call that must throw what the document names, and nothing else. */
    void noSuch(String what, Runnable call) {
        try {
            call.run();
        } catch (java.util.NoSuchElementException e) {
            due(what, e.getClass() == java.util.NoSuchElementException.class, true);
            return;
        }
        due(what + " throws NoSuchElementException", false, true);
    }

    /** Runs each test of an object, in the order of their names: the methods whose name has a '_'. */
    void runEach(Object tests) throws ReflectiveOperationException {
        Method[] all = tests.getClass().getDeclaredMethods();
        Arrays.sort(all, Comparator.comparing(Method::getName));
        for (Method test : all) {
            if (test.getName().contains("_") && !test.isSynthetic()) {
                promise(test.getName());
                int before = asDue + wrong;
                runOne(tests, test);
                due("looks at something", asDue + wrong > before, true);
            }
        }
    }

    private void runOne(Object tests, Method test) throws ReflectiveOperationException {
        try {
            test.invoke(tests);
        } catch (InvocationTargetException e) {
            due("threw " + e.getCause(), true, false);
        }
    }

    void finish() {
        System.out.println((wrong == 0 ? "all as due: " : wrong + " wrong, as due: ") + asDue);
        if (wrong != 0) {
            System.exit(1);
        }
    }

    static void feed(LentBoxes x, byte[] bytes) {
        int[] n = new int[5];
        for (int from = 0; from < bytes.length; from += 20) {
            for (int i = 0; i < 5; i++) {
                n[i] = 0;
                for (int j = 0; j < 4; j++) {
                    int at = from + 4 * i + j;
                    n[i] = n[i] << 8 | (at < bytes.length ? bytes[at] & 255 : 0);
                }
            }
            x.feed(n[0], n[1], n[2], n[3], n[4]);
        }
        x.end(bytes.length);
    }

    static void feed(LentBoxes x, String text) {
        feed(x, text.getBytes(StandardCharsets.ISO_8859_1));
    }

    static int vestry(LentBoxes x, String text) {
        feed(x, text);
        return x.vestry();
    }

    static int book(LentBoxes x, int lives, String text) {
        feed(x, text);
        return x.book(lives);
    }

    static int sentence(LentBoxes x, String text) {
        feed(x, text);
        return x.sentence();
    }

    static int who(LentBoxes x, int... pairs) {
        byte[] bytes = new byte[pairs.length];
        for (int i = 0; i < pairs.length; i++) {
            bytes[i] = (byte) pairs[i];
        }
        feed(x, bytes);
        return x.who();
    }

    static LentBoxes made(String text) {
        LentBoxes x = new LentBoxes();
        vestry(x, text);
        return x;
    }

    static String tagOf(LentBoxes x, int d) {
        int length = x.tag(d);
        StringBuilder text = new StringBuilder();
        for (int i = 0; i < length; i++) {
            text.append((char) x.byteAt(i));
        }
        return text.toString();
    }

    static String times(int n, String text) {
        return text.repeat(n);
    }

    static String many(int n, String text) {
        StringBuilder all = new StringBuilder();
        for (int i = 0; i < n; i++) {
            all.append(text.replace("#", String.valueOf((char) ('a' + i))));
        }
        return all.toString();
    }

    /** The draws are worked out here once more, so that seeds can be found for each kind of day. */
    private static int draw(int[] x, int n) {
        x[0] = x[0] * 1103515245 + 12345;
        return (x[0] >>> 8) % n;
    }

    static int seedFor(int... draws) {
        for (int seed = 0;; seed++) {
            int[] x = {seed};
            boolean found = true;
            for (int i = 0; i < draws.length && found; i += 2) {
                found = draw(x, draws[i]) == draws[i + 1];
            }
            if (found) {
                return seed;
            }
        }
    }
}
