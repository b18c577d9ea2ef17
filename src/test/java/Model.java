import java.nio.charset.StandardCharsets;
import java.util.ArrayDeque;
import java.util.ArrayList;
import java.util.Arrays;
import java.util.Deque;
import java.util.List;
import java.util.NoSuchElementException;
import java.util.Set;
import java.util.regex.Matcher;
import java.util.regex.Pattern;

/**
 * The document once more, written apart from the class and by other means (lists, patterns, trees,
 * trying all, going day by day), so that long drawn runs can be held against it.
 */
public final class Model {
    private static final class Fault extends RuntimeException {
        private static final long serialVersionUID = 1L;
        final int kind;
        final int place;

        Fault(int kind, Tok at) {
            this.kind = kind;
            this.place = at.at;
        }
    }

    private record Tok(String sort, String text, int at) { }

    private static final class Box implements Cloneable {
        String name;
        int length;
        int lasts;
        int lent;
        int aired;
        Integer holds;
        List<Integer> had = new ArrayList<>();

        Box copy() {
            Box c = new Box();
            c.name = name;
            c.length = length;
            c.lasts = lasts;
            c.lent = lent;
            c.aired = aired;
            c.holds = holds;
            c.had = new ArrayList<>(had);
            return c;
        }
    }

    private static final class Plot {
        String name;
        int rest;
        int left;
        List<Integer> laid = new ArrayList<>();

        Plot copy() {
            Plot c = new Plot();
            c.name = name;
            c.rest = rest;
            c.left = left;
            c.laid = new ArrayList<>(laid);
            return c;
        }
    }

    private static final class One {
        String name;
        int length;
        int comes;
        int asks = -1;
        int how;
        int box = -1;
        int plot = -1;
        int waited;
        int lain;

        One copy() {
            One c = new One();
            c.name = name;
            c.length = length;
            c.comes = comes;
            c.asks = asks;
            c.how = how;
            c.box = box;
            c.plot = plot;
            c.waited = waited;
            c.lain = lain;
            return c;
        }
    }

    private static final class World {
        int day;
        int air = 1;
        boolean airTold;
        List<Box> boxes = new ArrayList<>();
        List<Plot> plots = new ArrayList<>();
        List<One> dead = new ArrayList<>();
        List<int[]> kin = new ArrayList<>();
        List<int[]> frost = new ArrayList<>();

        World copy() {
            World c = new World();
            c.day = day;
            c.air = air;
            c.airTold = airTold;
            boxes.forEach(b -> c.boxes.add(b.copy()));
            plots.forEach(p -> c.plots.add(p.copy()));
            dead.forEach(d -> c.dead.add(d.copy()));
            c.kin.addAll(kin);
            c.frost.addAll(frost);
            return c;
        }

        boolean kin(int d, int e) {
            return kin.stream().anyMatch(k -> k[0] == d && k[1] == e || k[0] == e && k[1] == d);
        }

        boolean frosty() {
            return frost.stream().anyMatch(f -> day >= f[0] && day <= f[0] + f[1] - 1);
        }

        int lend(int d, int b) {
            One o = dead.get(d);
            Box x = boxes.get(b);
            if (o.how != 1) {
                return 1;
            }
            if (x.holds != null || x.aired > 0) {
                return 2;
            }
            if (o.length > x.length) {
                return 3;
            }
            if (x.lent == x.lasts) {
                return 4;
            }
            o.how = 2;
            o.box = b;
            x.holds = d;
            x.lent++;
            x.had.add(0, d);
            return 0;
        }

        int lay(int d, int p) {
            One o = dead.get(d);
            Plot y = plots.get(p);
            if (o.how != 2) {
                return 1;
            }
            if (frosty()) {
                return 2;
            }
            if (y.left > 0) {
                return 3;
            }
            if (!y.laid.isEmpty() && kin(d, y.laid.get(y.laid.size() - 1))) {
                return 4;
            }
            Box x = boxes.get(o.box);
            o.how = 3;
            o.box = -1;
            o.plot = p;
            y.laid.add(d);
            y.left = y.rest;
            x.holds = null;
            x.aired = air;
            return 0;
        }

        int swap(int d, int e) {
            One o = dead.get(d);
            One q = dead.get(e);
            if (o.how != 2 || q.how != 2) {
                return 1;
            }
            if (o.length > boxes.get(q.box).length || q.length > boxes.get(o.box).length) {
                return 2;
            }
            int was = o.box;
            o.box = q.box;
            q.box = was;
            boxes.get(o.box).holds = d;
            boxes.get(q.box).holds = e;
            return 0;
        }

        int mend(int b) {
            Box x = boxes.get(b);
            if (x.lent == 0) {
                return 1;
            }
            if (x.holds != null) {
                return 2;
            }
            x.lent = 0;
            return 0;
        }

        /** A day goes, whatever day it is. */
        void day() {
            for (One o : dead) {
                if (o.how == 1) {
                    o.waited++;
                }
                if (o.how == 2) {
                    o.lain++;
                }
            }
            boxes.forEach(b -> b.aired = Math.max(0, b.aired - 1));
            plots.forEach(p -> p.left = Math.max(0, p.left - 1));
            day++;
            for (One o : dead) {
                if (o.how == 0 && o.comes == day) {
                    o.how = 1;
                }
            }
        }

        int days(int n) {
            for (int i = 0; i < n; i++) {
                if (day == 400) {
                    return i;
                }
                day();
            }
            return n;
        }

        int drawn(int n, int seed) {
            int[] x = {seed};
            for (int i = 0; i < n; i++) {
                if (day == 400) {
                    return i;
                }
                switch (draw(x, 8)) {
                    case 0, 1, 2 -> {
                        if (!dead.isEmpty() && !boxes.isEmpty()) {
                            int d = draw(x, dead.size());
                            lend(d, draw(x, boxes.size()));
                        }
                    }
                    case 3, 4 -> {
                        if (!dead.isEmpty() && !plots.isEmpty()) {
                            int d = draw(x, dead.size());
                            lay(d, draw(x, plots.size()));
                        }
                    }
                    case 5 -> {
                        if (!boxes.isEmpty()) {
                            mend(draw(x, boxes.size()));
                        }
                    }
                    case 6 -> {
                        if (!dead.isEmpty()) {
                            int d = draw(x, dead.size());
                            int e = draw(x, dead.size());
                            if (d != e) {
                                swap(d, e);
                            }
                        }
                    }
                    default -> { }
                }
                day();
            }
            return n;
        }

        static int draw(int[] x, int n) {
            x[0] = x[0] * 1103515245 + 12345;
            return (x[0] >>> 8) % n;
        }

        int laid() {
            return bits(3);
        }

        int bits(int how) {
            int all = 0;
            for (int d = 0; d < dead.size(); d++) {
                all += dead.get(d).how == how ? 1 << d : 0;
            }
            return all;
        }
    }

    private interface Cond {
        boolean holds(World w, int d);
    }

    private interface Act {
        /** Why not, with its tens; 0: it was done. */
        int live(World w);
    }

    private static final Set<String> WORDS = Set.of(("box plot dead kin asks frost air lend lay swap mend day or and not"
            + " coming waiting lying laid in long waited lain number").split(" "));
    private static final Pattern PIECE = Pattern.compile("[a-z0-9]+|.", Pattern.DOTALL);

    private final List<Integer> tape = new ArrayList<>();
    private World w = new World();
    private Cond sentence;
    private int fault;
    private final Deque<World> past = new ArrayDeque<>();
    private int[] matched = new int[0];
    private int soonIn = -1;
    private List<Integer> ring = List.of();
    private int ask = -1;
    private String tag = "";
    private int[] told;
    private final World[] images = new World[2];
    private final Cond[] imageSentences = new Cond[2];

    // What is being read.
    private List<Tok> toks;
    private int next;
    private int ones;

    public int feed(int a, int b, int c, int d, int e) {
        if (tape.size() > 920) {
            return -1;
        }
        for (int n : new int[] {a, b, c, d, e}) {
            tape.addAll(List.of(n >>> 24, n >>> 16 & 255, n >>> 8 & 255, n & 255));
        }
        return tape.size();
    }

    public boolean end(int n) {
        if (n < 0 || n > tape.size()) {
            return false;
        }
        tape.subList(n, tape.size()).clear();
        return true;
    }

    private void open(int most) {
        byte[] bytes = new byte[tape.size()];
        for (int i = 0; i < bytes.length; i++) {
            bytes[i] = (byte) (int) tape.get(i);
        }
        tape.clear();
        toks = new ArrayList<>();
        next = 0;
        Matcher m = PIECE.matcher(new String(bytes, StandardCharsets.ISO_8859_1));
        while (m.find() && m.start() < most) {
            String text = m.group();
            if (text.equals(" ") || text.equals("\n")) {
                continue;
            }
            String sort = text.matches("[a-z]{1,7}") ? "word" : text.matches("[0-9]{1,3}") ? "number"
                    : text.matches("[;<=>()]") ? "sign" : "bad";
            toks.add(new Tok(sort, text, m.start()));
        }
        toks.add(bytes.length > most ? new Tok("bad", "", most) : new Tok("end", "", bytes.length));
    }

    private Tok peek() {
        return toks.get(next);
    }

    private boolean at(String text) {
        return (peek().sort.equals("word") || peek().sort.equals("sign")) && peek().text.equals(text);
    }

    private void sign(String text) {
        if (!at(text)) {
            throw new Fault(1, peek());
        }
        next++;
    }

    private int number(int low, int high) {
        Tok t = peek();
        if (!t.sort.equals("number")) {
            throw new Fault(1, t);
        }
        int value = Integer.parseInt(t.text);
        if (value < low || value > high) {
            throw new Fault(2, t);
        }
        next++;
        return value;
    }

    private String anyName() {
        Tok t = peek();
        if (!t.sort.equals("word") || WORDS.contains(t.text)) {
            throw new Fault(1, t);
        }
        return t.text;
    }

    private static int index(List<String> names, String name) {
        return names.indexOf(name);
    }

    private static List<String> names(World v, String sort) {
        List<String> all = new ArrayList<>();
        switch (sort) {
            case "box" -> v.boxes.forEach(b -> all.add(b.name));
            case "plot" -> v.plots.forEach(p -> all.add(p.name));
            default -> v.dead.forEach(d -> all.add(d.name));
        }
        return all;
    }

    private String newName(World v) {
        String name = anyName();
        for (String sort : List.of("box", "plot", "dead")) {
            if (names(v, sort).contains(name)) {
                throw new Fault(3, peek());
            }
        }
        next++;
        return name;
    }

    private int known(World v, String sort) {
        int i = index(names(v, sort), anyName());
        if (i < 0) {
            throw new Fault(3, peek());
        }
        next++;
        return i;
    }

    private void refuse(int kind, boolean when, Tok at) {
        if (when) {
            throw new Fault(kind, at);
        }
    }

    private int vestryLine(World v) {
        Tok first = peek();
        if (!first.sort.equals("word")) {
            throw new Fault(1, first);
        }
        next++;
        switch (first.text) {
            case "box" -> {
                refuse(4, v.boxes.size() == 9, first);
                Box b = new Box();
                b.name = newName(v);
                b.length = number(10, 99);
                b.lasts = number(1, 99);
                v.boxes.add(b);
            }
            case "plot" -> {
                refuse(4, v.plots.size() == 5, first);
                Plot p = new Plot();
                p.name = newName(v);
                p.rest = number(0, 60);
                v.plots.add(p);
            }
            case "dead" -> {
                refuse(4, v.dead.size() == 12, first);
                One d = new One();
                d.name = newName(v);
                d.length = number(10, 99);
                d.comes = number(0, 99);
                d.how = d.comes == 0 ? 1 : 0;
                v.dead.add(d);
            }
            case "kin" -> {
                refuse(4, v.kin.size() == 12, first);
                int d = known(v, "dead");
                Tok at = peek();
                int e = known(v, "dead");
                refuse(3, d == e || v.kin(d, e), at);
                v.kin.add(new int[] {d, e});
            }
            case "asks" -> {
                Tok at = peek();
                int d = known(v, "dead");
                refuse(3, v.dead.get(d).asks >= 0, at);
                v.dead.get(d).asks = known(v, "box");
            }
            case "frost" -> {
                refuse(4, v.frost.size() == 4, first);
                int from = number(0, 199);
                v.frost.add(new int[] {from, number(1, 60)});
            }
            case "air" -> {
                refuse(3, v.airTold, first);
                v.air = number(0, 9);
                v.airTold = true;
            }
            default -> throw new Fault(1, first);
        }
        sign(";");
        return 1;
    }

    public int vestry() {
        open(900);
        fault = 0;
        World v = new World();
        int lines = 0;
        try {
            while (!peek().sort.equals("end")) {
                lines += vestryLine(v);
            }
        } catch (Fault f) {
            fault = f.kind;
            return -1 - f.place;
        }
        w = v;
        sentence = null;
        past.clear();
        return lines;
    }

    public int fault() {
        return fault;
    }

    public int box(int b, int what) {
        if (b < 0 || b >= w.boxes.size() || what < 0 || what > 5) {
            return -1;
        }
        Box x = w.boxes.get(b);
        int holds = x.holds == null ? -1 : x.holds;
        return new int[] {x.length, x.lasts, x.lent, holds, holds < 0 && x.aired == 0 ? 1 : 0, x.aired}[what];
    }

    public int plot(int p, int what) {
        if (p < 0 || p >= w.plots.size() || what < 0 || what > 3) {
            return -1;
        }
        Plot y = w.plots.get(p);
        return new int[] {y.rest, y.laid.isEmpty() ? -1 : y.laid.get(y.laid.size() - 1), y.left, y.laid.size()}[what];
    }

    public int dead(int d, int what) {
        if (!one(d) || what < 0 || what > 7) {
            throw new NoSuchElementException();
        }
        One o = w.dead.get(d);
        int kin = 0;
        for (int e = 0; e < w.dead.size(); e++) {
            kin += w.kin(d, e) ? 1 << e : 0;
        }
        return new int[] {o.length, o.how, o.box, o.plot, o.waited, o.lain, kin, o.asks}[what];
    }

    public int now(int what) {
        int boxes = 0;
        for (int b = 0; b < w.boxes.size(); b++) {
            boxes += box(b, 4) << b;
        }
        int plots = 0;
        for (int p = 0; p < w.plots.size(); p++) {
            plots += plot(p, 2) == 0 ? 1 << p : 0;
        }
        return what < 0 || what > 7 ? -1
                : new int[] {w.day, w.bits(0), w.bits(1), w.bits(2), w.bits(3), boxes, plots, w.frosty() ? 1 : 0}[what];
    }

    private boolean one(int d) {
        return d >= 0 && d < w.dead.size();
    }

    private void keep(World was) {
        past.push(was);
        if (past.size() > 8) {
            past.removeLast();
        }
    }

    private int kept(World was, boolean done, int answer) {
        if (done) {
            keep(was);
        }
        return answer;
    }

    public int lend(int d, int b) {
        if (!one(d) || b < 0 || b >= w.boxes.size()) {
            return -1;
        }
        World was = w.copy();
        int why = w.lend(d, b);
        return kept(was, why == 0, why);
    }

    public int lay(int d, int p) {
        if (!one(d) || p < 0 || p >= w.plots.size()) {
            return -1;
        }
        World was = w.copy();
        int why = w.lay(d, p);
        return kept(was, why == 0, why);
    }

    public int swap(int d, int e) {
        if (!one(d) || !one(e) || d == e) {
            return -1;
        }
        World was = w.copy();
        int why = w.swap(d, e);
        return kept(was, why == 0, why);
    }

    public int mend(int b) {
        if (b < 0 || b >= w.boxes.size()) {
            return -1;
        }
        World was = w.copy();
        int why = w.mend(b);
        return kept(was, why == 0, why);
    }

    public int days(int n) {
        if (n < 1 || n > 60) {
            return -1;
        }
        World was = w.copy();
        int went = w.days(n);
        return kept(was, went > 0, went);
    }

    public int undo() {
        if (past.isEmpty()) {
            return -1;
        }
        w = past.pop();
        return past.size();
    }

    /** All ways are tried: the most, and of those the first in order of boxes, none behind all. */
    public int match() {
        int[] best = new int[w.dead.size()];
        int[] most = {-1};
        tryAll(0, new int[w.dead.size()], new boolean[w.boxes.size()], 0, best, most);
        matched = best;
        return most[0];
    }

    private void tryAll(int d, int[] way, boolean[] gone, int many, int[] best, int[] most) {
        if (d == way.length) {
            if (many > most[0]) {
                most[0] = many;
                System.arraycopy(way, 0, best, 0, way.length);
            }
            return;
        }
        if (many + way.length - d <= most[0]) {
            return;
        }
        for (int b = 0; b < gone.length; b++) {
            if (!gone[b] && w.copy().lend(d, b) == 0) {
                gone[b] = true;
                way[d] = b;
                tryAll(d + 1, way, gone, many + 1, best, most);
                gone[b] = false;
            }
        }
        way[d] = -1;
        tryAll(d + 1, way, gone, many, best, most);
    }

    public int matchOf(int d) {
        return d < 0 || d >= matched.length ? -1 : matched[d];
    }

    public int soon(int d) {
        if (!one(d) || w.dead.get(d).how != 2) {
            return -1;
        }
        World later = w.copy();
        for (int n = 0; n <= 300; n++) {
            for (int p = 0; p < w.plots.size(); p++) {
                if (later.copy().lay(d, p) == 0) {
                    soonIn = p;
                    return n;
                }
            }
            later.day();
        }
        return -1;
    }

    public int soonIn() {
        return soonIn;
    }

    public int crowd(int n) {
        if (n < 0 || n > 99) {
            return -1;
        }
        World later = w.copy();
        int most = Integer.bitCount(later.bits(1));
        for (int i = 0; i < n; i++) {
            later.day();
            most = Math.max(most, Integer.bitCount(later.bits(1)));
        }
        return most;
    }

    public int need(int n, int m) {
        if (n < 0 || n > 99 || m < 1 || m > 60) {
            return -1;
        }
        int[] out = new int[1000];
        for (One o : w.dead) {
            if (o.how != 3) {
                int from = o.how == 0 ? o.comes : w.day;
                for (int i = from; i < from + m + w.air; i++) {
                    out[i]++;
                }
            }
        }
        return Arrays.stream(out, w.day, w.day + n + 1).max().getAsInt();
    }

    public int ring(int d) {
        if (!one(d) || w.dead.get(d).how != 2) {
            return -1;
        }
        List<Integer> round = new ArrayList<>();
        int e = d;
        while (!round.contains(e)) {
            round.add(e);
            One o = w.dead.get(e);
            if (o.asks < 0 || o.length > w.boxes.get(o.asks).length) {
                return -1;
            }
            Integer in = w.boxes.get(o.asks).holds;
            if (in == null) {
                return -1;
            }
            e = in;
        }
        if (e != d) {
            return -1;
        }
        ring = round;
        return round.size();
    }

    public int ringAt(int k) {
        return k < 0 || k >= ring.size() ? -1 : ring.get(k);
    }

    private int number(int what, One o) {
        return new int[] {o.length, o.waited, o.box < 0 ? 255 : o.box, o.plot < 0 ? 255 : o.plot}[what];
    }

    public int who() {
        List<Integer> bytes = new ArrayList<>(tape);
        tape.clear();
        if (bytes.isEmpty() || bytes.size() > 12 || bytes.size() % 2 == 1) {
            return -1;
        }
        List<One> found = new ArrayList<>(w.dead);
        for (int i = 0; i < bytes.size(); i += 2) {
            int what = bytes.get(i);
            int value = bytes.get(i + 1);
            if (what > 3) {
                return -1;
            }
            found.removeIf(o -> number(what, o) != value);
        }
        int bits = 0;
        for (One o : found) {
            bits += 1 << w.dead.indexOf(o);
        }
        if (bits > 0) {
            int least = 99;
            for (int what = 0; what < 4; what++) {
                int[] many = new int[1000];
                for (One o : found) {
                    many[number(what, o)]++;
                }
                int greatest = Arrays.stream(many).max().getAsInt();
                if (greatest < least) {
                    least = greatest;
                    ask = what;
                }
            }
        }
        return bits;
    }

    public int ask() {
        return ask;
    }

    public int near(int d, int e) {
        if (!one(d) || !one(e)) {
            return -1;
        }
        int n = w.dead.size();
        int[][] far = new int[n][n];
        for (int i = 0; i < n; i++) {
            for (int j = 0; j < n; j++) {
                far[i][j] = i == j ? 0 : w.kin(i, j) ? 1 : 1000;
            }
        }
        for (int k = 0; k < n; k++) {
            for (int i = 0; i < n; i++) {
                for (int j = 0; j < n; j++) {
                    far[i][j] = Math.min(far[i][j], far[i][k] + far[k][j]);
                }
            }
        }
        return far[d][e] >= 1000 ? -1 : far[d][e];
    }

    public int had(int b, int k) {
        if (b < 0 || b >= w.boxes.size() || k < 0 || k > 3) {
            return -1;
        }
        List<Integer> had = w.boxes.get(b).had;
        return k < had.size() ? had.get(k) : -1;
    }

    private static int fraction(int above, int below, int what) {
        for (int by = below; by > 1; by--) {
            if (above % by == 0 && below % by == 0) {
                return what == 0 ? above / by : below / by;
            }
        }
        return what == 0 ? above : below;
    }

    public int wear(int b, int what) {
        if (b < 0 || b >= w.boxes.size() || what < 0 || what > 1) {
            throw new NoSuchElementException();
        }
        return fraction(w.boxes.get(b).lent, w.boxes.get(b).lasts, what);
    }

    public int mean(int what) {
        if (w.dead.isEmpty() || what < 0 || what > 1) {
            throw new NoSuchElementException();
        }
        return fraction(w.dead.stream().mapToInt(o -> o.waited).sum(), w.dead.size(), what);
    }

    public int longest() {
        int most = w.dead.stream().mapToInt(o -> o.waited).max().orElse(0);
        for (int d = 0; d < w.dead.size() && most > 0; d++) {
            if (w.dead.get(d).waited == most) {
                return d;
            }
        }
        return -1;
    }

    public int tag(int d) {
        if (!one(d)) {
            return -1;
        }
        One o = w.dead.get(d);
        tag = switch (o.how) {
            case 0 -> o.name + " comes";
            case 1 -> o.name + " waits";
            case 2 -> o.name + " lies in " + w.boxes.get(o.box).name;
            default -> o.name + " laid in " + w.plots.get(o.plot).name;
        };
        return tag.length();
    }

    public int byteAt(int i) {
        return i < 0 || i >= tag.length() ? -1 : tag.charAt(i);
    }

    public int drawn(int n, int seed) {
        if (n < 1 || n > 60) {
            return -1;
        }
        World was = w.copy();
        int went = w.drawn(n, seed);
        return kept(was, went > 0, went);
    }

    public int odds(int d, int n, int seed) {
        if (!one(d) || n < 1 || n > 30) {
            return -1;
        }
        int many = 0;
        for (int i = 0; i < n; i++) {
            World other = w.copy();
            other.drawn(20, seed + i);
            many += other.dead.get(d).how == 3 ? 1 : 0;
        }
        return many;
    }

    private Act bookLine() {
        Tok first = peek();
        next++;
        switch (first.text) {
            case "lend" -> {
                int d = known(w, "dead");
                int b = known(w, "box");
                return v -> v.lend(d, b);
            }
            case "lay" -> {
                int d = known(w, "dead");
                int p = known(w, "plot");
                return v -> tens(10, v.lay(d, p));
            }
            case "swap" -> {
                int d = known(w, "dead");
                Tok at = peek();
                int e = known(w, "dead");
                refuse(3, d == e, at);
                return v -> tens(20, v.swap(d, e));
            }
            case "mend" -> {
                int b = known(w, "box");
                return v -> tens(30, v.mend(b));
            }
            default -> {
                int n = number(1, 60);
                return v -> v.day + n > 400 ? 41 : v.days(n) - n;
            }
        }
    }

    private static int tens(int ten, int why) {
        return why == 0 ? 0 : ten + why;
    }

    public int book(int lives) {
        if (lives != 0 && lives != 1) {
            return -1000;
        }
        open(400);
        fault = 0;
        List<Act> acts = new ArrayList<>();
        try {
            while (!peek().sort.equals("end")) {
                boolean begins = List.of("lend", "lay", "swap", "mend", "day").contains(peek().text);
                refuse(1, !begins, peek());
                refuse(4, acts.size() == 40, peek());
                acts.add(bookLine());
                sign(";");
            }
        } catch (Fault f) {
            fault = f.kind;
            return -2 - f.place;
        }
        World was = w.copy();
        World v = w.copy();
        told = new int[4];
        int wrong = -1;
        for (Act act : acts) {
            told[0] = act.live(v);
            if (told[0] != 0) {
                wrong = acts.indexOf(act);
                break;
            }
            told[1]++;
        }
        told[2] = v.day;
        told[3] = v.laid();
        if (lives == 1 && told[1] > 0) {
            w = v;
            keep(was);
        }
        return wrong;
    }

    public int told(int what) {
        return told == null || what < 0 || what > 3 ? -1 : told[what];
    }

    private Cond cond(int within) {
        Cond left = all(within);
        while (at("or")) {
            next++;
            Cond a = left;
            Cond b = all(within);
            left = (v, d) -> a.holds(v, d) || b.holds(v, d);
        }
        return left;
    }

    private Cond all(int within) {
        Cond left = oneOf(within);
        while (at("and")) {
            next++;
            Cond a = left;
            Cond b = oneOf(within);
            left = (v, d) -> a.holds(v, d) && b.holds(v, d);
        }
        return left;
    }

    private Cond oneOf(int within) {
        Tok first = peek();
        boolean begins = at("(") || List.of("not", "coming", "waiting", "lying", "laid", "in", "kin", "long", "waited",
                "lain", "number").contains(first.text);
        refuse(1, !begins, first);
        ones++;
        refuse(4, ones > 20 || within > 8, first);
        next++;
        switch (first.text) {
            case "(" -> {
                Cond inner = cond(within + 1);
                sign(")");
                return inner;
            }
            case "not" -> {
                Cond inner = oneOf(within + 1);
                return (v, d) -> !inner.holds(v, d);
            }
            case "coming", "waiting", "lying", "laid" -> {
                int how = List.of("coming", "waiting", "lying", "laid").indexOf(first.text);
                return (v, d) -> v.dead.get(d).how == how;
            }
            case "in" -> {
                int b = known(w, "box");
                return (v, d) -> v.dead.get(d).how == 2 && v.dead.get(d).box == b;
            }
            case "kin" -> {
                int e = known(w, "dead");
                return (v, d) -> v.kin(d, e);
            }
            default -> {
                String sign = peek().text;
                refuse(1, !at("<") && !at("=") && !at(">"), peek());
                next++;
                int n = number(0, 999);
                return (v, d) -> {
                    One o = v.dead.get(d);
                    int is = switch (first.text) {
                        case "long" -> o.length;
                        case "waited" -> o.waited;
                        case "lain" -> o.lain;
                        default -> d;
                    };
                    return sign.equals("<") ? is < n : sign.equals("=") ? is == n : is > n;
                };
            }
        }
    }

    public int sentence() {
        open(200);
        fault = 0;
        ones = 0;
        try {
            Cond read = cond(1);
            refuse(1, !peek().sort.equals("end"), peek());
            sentence = read;
            return ones;
        } catch (Fault f) {
            fault = f.kind;
            return -1 - f.place;
        }
    }

    public int said(int k) {
        if (sentence == null) {
            return -1;
        }
        List<Integer> those = new ArrayList<>();
        for (int d = 0; d < w.dead.size(); d++) {
            if (sentence.holds(w, d)) {
                those.add(d);
            }
        }
        return k == -1 ? those.size() : k < 0 || k >= those.size() ? -1 : those.get(k);
    }

    public boolean image(int k) {
        if (k != 0 && k != 1) {
            return false;
        }
        images[k] = w.copy();
        imageSentences[k] = sentence;
        return true;
    }

    public boolean restore(int k) {
        if (k != 0 && k != 1 || images[k] == null) {
            return false;
        }
        w = images[k].copy();
        sentence = imageSentences[k];
        past.clear();
        return true;
    }

    public int count(int what) {
        return what < 0 || what > 6 ? -1 : new int[] {w.boxes.size(), w.plots.size(), w.dead.size(), w.kin.size(),
            w.frost.size(), w.air, tape.size()}[what];
    }
}
