import java.lang.reflect.InvocationTargetException;
import java.lang.reflect.Method;
import java.lang.reflect.Modifier;
import java.nio.charset.StandardCharsets;
import java.util.ArrayList;
import java.util.Arrays;
import java.util.List;
import java.util.Random;

/** Runs of calls drawn by fixed seeds, held against the model; arguments of all sorts, texts with faults. */
public final class DrawnRunsTest {
    private static final int RUNS = Integer.getInteger("runs", 150);
    private static final int CALLS = 2500;
    private static final String[] NAMES = {"a", "ann", "bob", "cid", "dot", "eve", "fay", "gus", "hal", "ida", "jim",
        "kay", "ash", "elm", "oak", "fir", "yew", "pine", "teak", "lime", "beech", "east", "west", "north", "south",
        "middle", "zzzzzzz", "q"};
    private static final String[] ODD = {"box", "1234", "abcdefgh", "a1", "1a", ";", "<", ")", "(", ".", "B", "\t",
        "\u00e9", "999", "0", "5", "nobody", "or", "and", "lend", "kin", "air", "-", "000", "00", "100", "60", "61"};

    private final Random draw;
    private final LentBoxes x = new LentBoxes();
    private final Model model = new Model();
    private final List<String> log = new ArrayList<>();
    private final List<String> boxes = new ArrayList<>();
    private final List<String> plots = new ArrayList<>();
    private final List<String> dead = new ArrayList<>();
    private int calls;

    private DrawnRunsTest(long seed) {
        draw = new Random(seed);
    }

    public static void main(String[] args) throws Exception {
        Class.forName("LentBoxes");
        for (int run = 0; run < RUNS; run++) {
            DrawnRunsTest test = new DrawnRunsTest(run);
            try {
                test.run();
            } catch (IllegalStateException e) {
                int from = Math.max(0, test.log.size() - 60);
                test.log.subList(from, test.log.size()).forEach(System.out::println);
                System.out.println("run " + run + ": " + e.getMessage());
                System.exit(1);
            }
        }
        System.out.println("all as due in runs: " + RUNS);
    }

    private static Object answer(Object of, String name, int[] args) throws ReflectiveOperationException {
        Class<?>[] types = new Class<?>[args.length];
        Arrays.fill(types, int.class);
        Method method = of.getClass().getMethod(name, types);
        Object[] values = Arrays.stream(args).boxed().toArray();
        try {
            return method.invoke(of, values);
        } catch (InvocationTargetException e) {
            return "throws." + e.getCause().getClass().getSimpleName();
        }
    }

    private Object call(String name, int... args) {
        calls++;
        try {
            Object want = answer(model, name, args);
            Object got = answer(x, name, args);
            String line = name + Arrays.toString(args) + " -> " + got;
            log.add(line);
            if (!got.equals(want)) {
                throw new IllegalStateException(line + ", due is " + want);
            }
            return got;
        } catch (ReflectiveOperationException e) {
            throw new IllegalStateException(e);
        }
    }

    private void run() {
        for (int i = draw.nextInt(10); i > 0 && boxes.isEmpty(); i--) {
            vestry();
        }
        while (calls < CALLS) {
            step();
        }
        for (Method m : LentBoxes.class.getDeclaredMethods()) {
            if (Modifier.isPublic(m.getModifiers()) && m.getParameterCount() == 1 && !m.getName().equals("book")) {
                for (int i = -1; i < 13; i++) {
                    call(m.getName(), i);
                }
            }
        }
    }

    private void step() {
        int n = draw.nextInt(100);
        if (n < 1) {
            vestry();
        } else if (n < 5) {
            lendAll();
        } else if (n < 7) {
            layAll();
        } else if (n < 45) {
            act();
        } else if (n < 52) {
            book();
        } else if (n < 58) {
            sentence();
        } else if (n < 64) {
            who();
        } else {
            look();
        }
    }

    private int small(int to) {
        return draw.nextInt(12) == 0 ? draw.nextInt(20) - 4 : draw.nextInt(Math.max(1, to));
    }

    private int wide() {
        int[] odd = {Integer.MIN_VALUE, Integer.MAX_VALUE, -2, -1, 0, 61, 100, 1 << 30, draw.nextInt()};
        return odd[draw.nextInt(odd.length)];
    }

    private int some(int to) {
        return draw.nextInt(60) == 0 ? wide() : small(to);
    }

    /** Those who wait are lent what the match has for them, or what they ask for. */
    private void lendAll() {
        boolean asked = draw.nextBoolean();
        call("match");
        for (int d = 0; d < x.count(2); d++) {
            int b = asked ? x.dead(draw.nextInt(x.count(2)), 7) : x.matchOf(d);
            if (x.dead(d, 1) == 1 && b >= 0 && draw.nextInt(6) != 0) {
                call("lend", d, b);
                call("had", b, draw.nextInt(4));
                call("box", b, draw.nextInt(6));
                call("wear", b, draw.nextInt(2));
            }
        }
        for (int d = 0; d < x.count(2); d++) {
            call("ring", d);
            call("ringAt", draw.nextInt(4));
        }
    }

    private void layAll() {
        for (int d = 0; d < x.count(2); d++) {
            if (x.dead(d, 1) == 2 && call("soon", d).equals(0) && draw.nextInt(4) != 0) {
                int p = (Integer) call("soonIn");
                int b = x.dead(d, 2);
                call("lay", d, p);
                call("box", b, 3 + draw.nextInt(3));
                call("plot", p, draw.nextInt(4));
                call("mend", b);
                call("tag", d);
                call("byteAt", draw.nextInt(20));
            }
        }
    }

    /** One of the dead who is so, if there is one. */
    private int oneWho(int how) {
        int bits = x.now(1 + how);
        List<Integer> those = new ArrayList<>();
        for (int d = 0; d < 12; d++) {
            if ((bits >> d & 1) != 0) {
                those.add(d);
            }
        }
        return those.isEmpty() || draw.nextInt(8) == 0 ? some(dead.size()) : those.get(draw.nextInt(those.size()));
    }

    private void act() {
        switch (draw.nextInt(16)) {
            case 0, 1, 2, 3, 4 -> call("lend", oneWho(1), some(boxes.size()));
            case 5, 6, 7 -> call("lay", oneWho(2), some(plots.size()));
            case 8, 9 -> call("swap", oneWho(2), oneWho(2));
            case 10 -> call("mend", some(boxes.size()));
            case 11, 12 -> call("days", draw.nextInt(12) == 0 ? draw.nextInt(70) - 3 : 1 + draw.nextInt(4));
            case 13 -> call("drawn", draw.nextInt(6) == 0 ? draw.nextInt(70) - 3 : 1 + draw.nextInt(8), draw.nextInt());
            case 14 -> {
                for (int i = draw.nextInt(12); i >= 0; i--) {
                    call("undo");
                }
            }
            default -> call(draw.nextBoolean() ? "image" : "restore", draw.nextInt(5) - 1);
        }
    }

    private void look() {
        switch (draw.nextInt(24)) {
            case 0 -> call("box", some(boxes.size()), some(6));
            case 1 -> call("plot", some(plots.size()), some(4));
            case 2, 3 -> call("dead", some(dead.size()), some(8));
            case 4 -> call("now", some(8));
            case 5, 6 -> {
                call("match");
                for (int d = -1; d < 13; d++) {
                    call("matchOf", d);
                }
            }
            case 7, 8 -> {
                call("soon", oneWho(2));
                call("soonIn");
            }
            case 9 -> call("crowd", draw.nextInt(5) == 0 ? wide() : draw.nextInt(100));
            case 10 -> call("need", draw.nextInt(9) == 0 ? wide() : draw.nextInt(100),
                    draw.nextInt(9) == 0 ? wide() : draw.nextInt(62));
            case 11, 12 -> {
                call("ring", oneWho(2));
                for (int k = -1; k < 5; k++) {
                    call("ringAt", k);
                }
            }
            case 13 -> call("near", some(dead.size()), some(dead.size()));
            case 14 -> call("had", some(boxes.size()), some(4));
            case 15 -> call("wear", some(boxes.size()), some(2));
            case 16 -> call("mean", some(2));
            case 17 -> call("longest");
            case 18 -> {
                call("tag", some(dead.size()));
                for (int i = 0; i < 4; i++) {
                    call("byteAt", some(24));
                }
            }
            case 19 -> call("odds", some(dead.size()), draw.nextInt(33) - 1, draw.nextInt());
            case 20 -> call("told", some(4));
            case 21, 22 -> {
                for (int k = -2; k < 5; k++) {
                    call("said", k);
                }
            }
            default -> {
                call("count", some(7));
                call("fault");
                call("matchOf", some(12));
                call("ask");
                call("soonIn");
                call("end", draw.nextInt(3) == 0 ? wide() : 0);
            }
        }
    }

    private void feed(byte[] bytes) {
        if (draw.nextInt(40) != 0) {
            call("end", 0);
        }
        int[] n = new int[5];
        int had = x.count(6);
        boolean full = false;
        for (int from = 0; from < bytes.length; from += 20) {
            for (int i = 0; i < 20; i++) {
                n[i / 4] = n[i / 4] << 8 | (from + i < bytes.length ? bytes[from + i] & 255 : 0);
            }
            full = call("feed", n).equals(-1);
        }
        if (!full || draw.nextBoolean()) {
            call("end", had + bytes.length);
        }
        call("count", 6);
    }

    private void feed(String text) {
        log.add("\"" + text + "\"");
        feed(text.getBytes(StandardCharsets.ISO_8859_1));
    }

    private String pick(List<String> names) {
        return names.isEmpty() || draw.nextInt(150) == 0 ? NAMES[draw.nextInt(NAMES.length)]
                : names.get(draw.nextInt(names.size()));
    }

    private String fresh(List<String> sort, List<String> left) {
        String name = left.isEmpty() || draw.nextInt(400) == 0 ? NAMES[draw.nextInt(NAMES.length)]
                : left.remove(draw.nextInt(left.size()));
        sort.add(name);
        return name;
    }

    private int number(int low, int high) {
        int n = draw.nextInt(600);
        return n == 0 ? high + 1 : n == 1 && low > 0 ? low - 1 : n < 10 ? low : n < 20 ? high
                : low + draw.nextInt(high - low + 1);
    }

    private void vestry() {
        List<String> were = new ArrayList<>(dead);
        List<String> wereBoxes = new ArrayList<>(boxes);
        List<String> werePlots = new ArrayList<>(plots);
        String text = spoil(vestryText(), 5);
        feed(text);
        if ((Integer) call("vestry") < 0) {
            back(dead, were);
            back(boxes, wereBoxes);
            back(plots, werePlots);
        }
        call("fault");
        for (int i = 0; i < 8; i++) {
            call("count", i);
            call("now", i);
        }
    }

    private static void back(List<String> names, List<String> were) {
        names.clear();
        names.addAll(were);
    }

    private String vestryText() {
        dead.clear();
        boxes.clear();
        plots.clear();
        List<String> left = new ArrayList<>(Arrays.asList(NAMES));
        List<String> lines = new ArrayList<>();
        boolean tight = draw.nextBoolean();
        boolean even = draw.nextInt(3) == 0;
        boolean early = draw.nextBoolean();
        for (int i = most(9); i > 0; i--) {
            lines.add("box " + fresh(boxes, left) + " " + (even ? number(50, 52) : tight ? number(40, 60) : number(10, 99)) + " "
                    + (tight ? number(1, 4) : number(1, 99)));
        }
        for (int i = most(5); i > 0; i--) {
            lines.add("plot " + fresh(plots, left) + " " + (tight ? number(0, 5) : number(0, 60)));
        }
        for (int i = most(12); i > 0; i--) {
            lines.add("dead " + fresh(dead, left) + " " + (even ? number(49, 51) : tight ? number(35, 58) : number(10, 99)) + " "
                    + (early ? number(0, 6) : number(0, 99)));
        }
        java.util.Collections.shuffle(lines, draw);
        List<String> more = new ArrayList<>();
        List<String> told = new ArrayList<>();
        for (int i = draw.nextInt(14); i > 0 && !dead.isEmpty(); i--) {
            String a = pick(dead);
            String b = pick(dead);
            String pair = a.compareTo(b) < 0 ? a + b : b + a;
            if (draw.nextInt(300) == 0 || !a.equals(b) && !told.contains(pair)) {
                told.add(pair);
                more.add("kin " + a + " " + b);
            }
        }
        for (String d : dead) {
            if (draw.nextInt(5) != 0 && !boxes.isEmpty()) {
                more.add("asks " + d + " " + pick(boxes));
            }
        }
        for (int i = draw.nextInt(draw.nextInt(20) == 0 ? 6 : 5); i > 0; i--) {
            more.add("frost " + (tight ? number(0, 30) : number(0, 199)) + " " + (tight ? number(1, 6) : number(1, 60)));
        }
        if (draw.nextInt(3) != 0) {
            more.add("air " + number(0, tight ? 2 : 9));
        }
        java.util.Collections.shuffle(more, draw);
        lines.addAll(more);
        if (draw.nextInt(30) == 0) {
            java.util.Collections.shuffle(lines, draw);
        }
        return join(lines);
    }

    private int most(int most) {
        int n = draw.nextInt(24);
        return n == 0 ? most + 1 : n == 1 ? 0 : n < 12 ? most - draw.nextInt(3) : 1 + draw.nextInt(most);
    }

    private String join(List<String> lines) {
        StringBuilder text = new StringBuilder();
        for (String line : lines) {
            text.append(blank()).append(line).append(blank()).append(';').append(blank());
        }
        return text.toString();
    }

    private String blank() {
        int n = draw.nextInt(30);
        return n == 0 ? " " : n == 1 ? "\n" : n == 2 ? "  \n" : "";
    }

    /** At times a text is broken: a piece put in, cut out, cut off, or blanks to make it long. */
    private String spoil(String text, int oneOf) {
        if (draw.nextInt(oneOf) != 0 || text.isEmpty()) {
            return text;
        }
        int at = draw.nextInt(text.length() + 1);
        switch (draw.nextInt(5)) {
            case 0:
                return text.substring(0, at) + " " + ODD[draw.nextInt(ODD.length)] + " " + text.substring(at);
            case 1:
                return text.substring(0, at) + ODD[draw.nextInt(ODD.length)] + text.substring(at);
            case 2:
                return text.substring(0, at);
            case 3:
                return text.substring(0, at) + text.substring(Math.min(text.length(), at + 1 + draw.nextInt(4)));
            default:
                int[] most = {200, 400, 900, 940};
                int room = most[draw.nextInt(4)] + draw.nextInt(6) - 3 - text.length();
                return text.substring(0, at) + " ".repeat(Math.max(0, Math.min(room, 940 - text.length())))
                        + text.substring(at);
        }
    }

    private void book() {
        List<String> lines = new ArrayList<>();
        int n = draw.nextInt(12) == 0 ? 38 + draw.nextInt(5) : draw.nextInt(9);
        boolean calm = n > 30 || draw.nextInt(3) == 0;
        for (int i = 0; i < n; i++) {
            lines.add(bookLine(calm));
        }
        feed(spoil(join(lines), 5));
        call("book", draw.nextInt(12) == 0 ? draw.nextInt(5) - 1 : draw.nextInt(2));
        call("fault");
        for (int i = -1; i < 5; i++) {
            call("told", i);
        }
        call("count", 6);
    }

    private String bookLine(boolean calm) {
        int bits = x.now(2);
        int waiting = Integer.numberOfTrailingZeros(bits);
        String one = bits > 0 && waiting < dead.size() ? dead.get(waiting) : pick(dead);
        switch (calm ? 9 : draw.nextInt(10)) {
            case 0, 1, 2:
                return "lend " + one + " " + pick(boxes);
            case 3:
                return "lend " + pick(dead) + " " + pick(boxes);
            case 4, 5:
                return "lay " + (draw.nextBoolean() ? one : pick(dead)) + " " + pick(plots);
            case 6:
                return "swap " + pick(dead) + " " + pick(dead);
            case 7:
                return "mend " + pick(boxes);
            default:
                return "day " + (draw.nextInt(8) == 0 ? number(1, 60) : number(1, calm ? 10 : 2));
        }
    }

    private void sentence() {
        StringBuilder text = new StringBuilder();
        cond(text, draw.nextInt(9) == 0 ? 9 : draw.nextInt(4));
        feed(spoil(text.length() > 930 ? text.substring(0, 930) : text.toString(), 6));
        call("sentence");
        call("fault");
        for (int k = -1; k < 13; k++) {
            call("said", k);
        }
    }

    private void cond(StringBuilder text, int depth) {
        one(text, depth);
        for (int i = draw.nextInt(depth > 5 ? 40 : 3) / 2; i > 0; i--) {
            text.append(draw.nextBoolean() ? " or " : " and ");
            one(text, depth > 5 ? 0 : depth);
        }
    }

    private void one(StringBuilder text, int depth) {
        int n = depth > 0 ? draw.nextInt(10) : 4 + draw.nextInt(6);
        if (n < 2) {
            text.append("not ");
            one(text, depth - 1);
        } else if (n < 4) {
            text.append('(').append(blank());
            cond(text, depth - 1);
            text.append(')');
        } else if (n < 6) {
            text.append(new String[] {"coming", "waiting", "lying", "laid"}[draw.nextInt(4)]);
        } else if (n == 6) {
            text.append("in ").append(pick(boxes));
        } else if (n == 7) {
            text.append("kin ").append(pick(dead));
        } else {
            text.append(new String[] {"long", "waited", "lain", "number"}[draw.nextInt(4)]).append(blank())
                    .append("<=>".charAt(draw.nextInt(3))).append(blank())
                    .append(draw.nextInt(4) == 0 ? draw.nextInt(100) : draw.nextInt(8));
        }
    }

    private void who() {
        int pairs = draw.nextInt(20) == 0 ? draw.nextInt(9) : 1 + draw.nextInt(2);
        byte[] bytes = new byte[2 * pairs + (draw.nextInt(15) == 0 ? 1 : 0)];
        int d = small(dead.size());
        for (int i = 0; i + 1 < bytes.length; i += 2) {
            int what = draw.nextInt(30) == 0 ? draw.nextInt(256) : draw.nextInt(4);
            bytes[i] = (byte) what;
            bytes[i + 1] = (byte) (draw.nextInt(5) == 0 ? draw.nextInt(256) : numberOf(d, what));
        }
        feed(bytes);
        call("who");
        call("ask");
    }

    private int numberOf(int d, int what) {
        if (d < 0 || d >= x.count(2) || what < 0 || what > 3) {
            return 0;
        }
        return x.dead(d, new int[] {0, 4, 2, 3}[what]);
    }
}
