import java.io.IOException;
import java.lang.reflect.Constructor;
import java.lang.reflect.Field;
import java.lang.reflect.Method;
import java.lang.reflect.Modifier;
import java.nio.file.Files;
import java.nio.file.Path;
import java.util.ArrayList;
import java.util.Arrays;
import java.util.List;
import java.util.Set;
import java.util.TreeSet;
import java.util.regex.Matcher;
import java.util.regex.Pattern;

/** What of LANGUAGE.md can be seen from the source and the compiled class. */
public final class LanguageTest {
    private static final String FACE = "feed 5,end 1,vestry 0,fault 0,box 2,plot 2,dead 2,now 1,lend 2,lay 2,swap 2,mend 1,"
            + "days 1,undo 0,match 0,matchOf 1,soon 1,soonIn 0,crowd 1,need 2,ring 1,ringAt 1,who 0,ask 0,near 2,had 2,"
            + "wear 2,mean 1,longest 0,tag 1,byteAt 1,drawn 2,odds 3,book 1,told 1,sentence 0,said 1,image 1,restore 1,"
            + "count 1";
    private static final Set<String> BOOLEAN = Set.of("end", "image", "restore");
    private final Check check = new Check();

    public static void main(String[] args) throws IOException {
        LanguageTest test = new LanguageTest();
        String source = Files.readString(Path.of("src/main/java/LentBoxes.java"));
        String code = source.replaceAll("(?s)/\\*.*?\\*/", "").replaceAll("//[^\n]*", "");
        test.face();
        test.classes();
        test.words(code);
        test.lengths(code);
        test.check.finish();
    }

    private void face() {
        check.promise("rule 1");
        Set<String> want = new TreeSet<>(Arrays.asList(FACE.split(",")));
        Set<String> got = new TreeSet<>();
        Set<String> open = new TreeSet<>();
        Set<String> closed = new TreeSet<>();
        for (Method m : LentBoxes.class.getDeclaredMethods()) {
            if (Modifier.isPrivate(m.getModifiers())) {
                closed.add(m.getName());
                continue;
            }
            got.add(m.getName() + " " + m.getParameterCount());
            open.add(m.getName());
            check.due(m + " is public", Modifier.isPublic(m.getModifiers()), true);
            check.due(m + " answers", m.getReturnType() == (BOOLEAN.contains(m.getName()) ? boolean.class : int.class), true);
        }
        check.due("the face " + got, got.equals(want), true);
        closed.retainAll(open);
        check.due("private ones named as public ones: " + closed, closed.isEmpty(), true);
        for (Field f : LentBoxes.class.getDeclaredFields()) {
            boolean none = f.getName().equals("NONE");
            check.due("field " + f, Modifier.isPublic(f.getModifiers()) == none && (none || Modifier.isPrivate(f.getModifiers())), true);
        }
        Constructor<?>[] made = LentBoxes.class.getDeclaredConstructors();
        check.due("constructors", made.length == 1 && made[0].getParameterCount() == 0
                && Modifier.isPublic(made[0].getModifiers()), true);
        check.due("the class is public and final", LentBoxes.class.getModifiers() & 17, 17);
    }

    private void classes() {
        List<Class<?>> all = new ArrayList<>(List.of(LentBoxes.class.getDeclaredClasses()));
        check.promise("rules 1, 5, 11");
        check.due("some twelve classes", all.size() <= 11, true);
        all.add(LentBoxes.class);
        for (Class<?> c : all) {
            boolean inside = c != LentBoxes.class;
            check.due(c + " is static", !inside || Modifier.isStatic(c.getModifiers()), true);
            int fields = 0;
            for (Field f : c.getDeclaredFields()) {
                boolean constant = Modifier.isStatic(f.getModifiers());
                fields += constant ? 0 : 1;
                check.due(f + " is final", !constant || Modifier.isFinal(f.getModifiers()), true);
            }
            check.due(c + " has some twenty fields", fields <= 20, true);
            for (Method m : c.getDeclaredMethods()) {
                check.due(m + " takes seven at most", m.getParameterCount() <= 7, true);
                check.due(m + " has a name of its own", !inside || !("," + FACE).contains("," + m.getName() + " "), true);
            }
        }
    }

    private void words(String code) {
        check.promise("rules 2 to 12");
        for (String word : new String[] {"->", "::", "\\bcatch\\b", "\\btry\\b", "\\bfinally\\b", "\\bsynchronized\\b",
            "\\bassert\\b", "\\bvar\\b", "\\bstatic\\s*\\{", "\\bdouble\\b", "\\bfloat\\b", "Exact\\(", "System\\.(?!arraycopy)",
            "\\[\\]\\[\\]", "@Override", "\\bthis\\b", "\\binstanceof\\b", "StringBuilder", "ArrayList"}) {
            Matcher m = Pattern.compile(word).matcher(code);
            check.due("no " + word, m.find(), false);
        }
        Matcher imports = Pattern.compile("import ([a-zA-Z.]+);").matcher(code);
        while (imports.find()) {
            String name = imports.group(1);
            check.due(name, name.equals("java.util.Arrays") || name.equals("java.util.NoSuchElementException"), true);
        }
        Matcher thrown = Pattern.compile("throw new (\\w+)").matcher(code);
        while (thrown.find()) {
            check.due(thrown.group(), thrown.group(1).equals("NoSuchElementException"), true);
        }
        check.due("new objects in the constructors and fields alone", code.replaceAll("throw new|= new", "").contains("new "), false);
    }

    private void lengths(String code) {
        check.promise("rule 11");
        int from = -1;
        String[] lines = code.split("\n");
        for (int i = 0; i < lines.length; i++) {
            if (lines[i].matches("^( {4}| {8})\\S.*\\).*\\{$") && !lines[i].contains(" class ")) {
                from = i;
            }
            if (from >= 0 && lines[i].matches("^( {4}| {8})\\}$")) {
                check.due("length of " + lines[from].trim(), i - from <= 60, true);
                from = -1;
            }
            check.due("line " + (i + 1) + " is not too wide", lines[i].length() <= 120, true);
        }
    }
}
