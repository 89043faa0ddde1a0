import java.lang.reflect.Constructor;
import java.lang.reflect.Field;
import java.lang.reflect.Method;
import java.lang.reflect.Modifier;
import java.nio.file.Files;
import java.nio.file.Path;
import java.util.Set;
import java.util.TreeSet;
import java.util.regex.Matcher;
import java.util.regex.Pattern;

/** Those rules of LANGUAGE.md that can be seen from the class and its text. Run from the project's root. */
public final class LanguageTest {
    private static final String FACE = "size(int,int)int term(int,int)int sum()int loop(int,int,int,boolean)int "
        + "test(int,int,int)int act(int,int,int)int aim(int,int,int,int,int)int node(int,int)int hold(int,int)int "
        + "note(int,int)int held(int,int)int noted(int,int,int)int copy(int,int,int,int,int)int array(int,int)int "
        + "row(int,int,int)int tear(int,int)int lay(int,int,int,long)int get(int,int,int)int asked()long visits()int "
        + "visit(int,int,boolean)int has(int,int,int,int,int)int points(int)int needs(int,int,int)int carried(int)int "
        + "distance(int,int,int,boolean)int free(int)int swap(int,int)int lean(int,int,int)int back(int)int "
        + "shift(int,int,int)int tile(int,int,int)int part(int)int join(int,int)int undo()int order(int,int,int)int "
        + "allowed()int why(int)int run(boolean)int ended(int)int fetched(int,int)int best(int,int,int)int lines()int "
        + "written(int,int)int count(int)int finding()int findings(int)int digest()long";
    private static final String[] FORBIDDEN = {"\\bthrow\\b", "\\bthrows\\b", "\\btry\\b", "\\bcatch\\b",
        "\\bfinally\\b", "\\bsynchronized\\b", "\\bassert\\b", "->", "::", "\\w+Exact\\b", "\\bstatic\\s*\\{",
        "\\bthis\\s*\\)", "\\bRandom\\b", "\\bSystem\\.(?!arraycopy\\b)", "\\bObject\\b", "\\bextends\\b",
        "\\bpackage\\b", "\\bThread\\b", "\\bequals\\b", "\\bhashCode\\b", "\\btoString\\b", "\\bnew\\s+\\w+\\s*\\{",
        "\\bMath\\.(?!min\\b|max\\b|floorDiv\\b)", "\\bArrays\\.(?!fill\\b)"};

    public static void main(String[] args) throws Exception {
        face();
        inside();
        text(Files.readString(Path.of("src/main/java/LoopLoom.java")));
        Check.end();
    }

    private static void none(String what, boolean isSo) {
        Check.due(what, isSo ? 1 : 0, 0);
    }

    private static String told(Method m) {
        StringBuilder b = new StringBuilder(m.getName()).append('(');
        for (int i = 0; i < m.getParameterCount(); i++) b.append(i == 0 ? "" : ",").append(m.getParameterTypes()[i]);
        return b.append(')').append(m.getReturnType()).toString();
    }

    private static void face() {
        Set<String> open = new TreeSet<>();
        for (Method m : LoopLoom.class.getDeclaredMethods()) {
            int how = m.getModifiers();
            if (Modifier.isPublic(how)) open.add(told(m));
            none(m + " is neither public nor private", !Modifier.isPublic(how) && !Modifier.isPrivate(how));
        }
        Set<String> want = new TreeSet<>(Set.of(FACE.split(" ")));
        none("the public methods are " + open, !open.equals(want));
        none("49 promises: methods", open.size() != 48);
        none("the class is not public and final", !Modifier.isPublic(LoopLoom.class.getModifiers())
            || !Modifier.isFinal(LoopLoom.class.getModifiers()));
        Set<String> constants = new TreeSet<>();
        for (Field f : LoopLoom.class.getDeclaredFields()) {
            int how = f.getModifiers();
            if (Modifier.isPublic(how)) constants.add(f.getName());
            none(f + " is neither public nor private", !Modifier.isPublic(how) && !Modifier.isPrivate(how));
        }
        none("the public constants are " + constants,
            !constants.equals(Set.of("BAD", "FULL", "FINDING", "STATE", "SPENT", "NONE")));
        Constructor<?>[] makers = LoopLoom.class.getDeclaredConstructors();
        none("one constructor, public, without parameters", makers.length != 1
            || !Modifier.isPublic(makers[0].getModifiers()) || makers[0].getParameterCount() != 0);
    }

    private static void inside() {
        Set<String> names = new TreeSet<>();
        for (Method m : LoopLoom.class.getDeclaredMethods()) if (Modifier.isPublic(m.getModifiers())) names.add(m.getName());
        Class<?>[] classes = LoopLoom.class.getDeclaredClasses();
        none("more than twelve classes", classes.length + 1 > 12);
        for (Class<?> c : classes) {
            none(c + " is not static", !Modifier.isStatic(c.getModifiers()));
            none(c + " is public or protected", Modifier.isPublic(c.getModifiers()) || Modifier.isProtected(c.getModifiers()));
            for (Method m : c.getDeclaredMethods()) none(m + " bears the name of a public one", names.contains(m.getName()));
            members(c);
        }
        for (Method m : LoopLoom.class.getDeclaredMethods()) {
            none(m + " bears the name of a public one", Modifier.isPrivate(m.getModifiers()) && names.contains(m.getName()));
        }
        members(LoopLoom.class);
    }

    private static void members(Class<?> c) {
        int fields = 0;
        for (Field f : c.getDeclaredFields()) {
            boolean isStatic = Modifier.isStatic(f.getModifiers());
            if (!isStatic) fields++;
            none(f + " is static and not a final int", isStatic
                && (!Modifier.isFinal(f.getModifiers()) || f.getType() != int.class));
        }
        none(c + " has " + fields + " fields", fields > 20);
        for (Method m : c.getDeclaredMethods()) none(m + " takes too many", m.getParameterCount() > 7);
    }

    private static void text(String source) {
        none("characters above 255", source.chars().anyMatch(ch -> ch > 255));
        String code = source.replaceAll("(?s)/\\*.*?\\*/", "").replaceAll("//[^\n]*", "");
        for (String pattern : FORBIDDEN) {
            Matcher m = Pattern.compile(pattern).matcher(code);
            none("'" + pattern + "' stands in the text", m.find());
        }
        Matcher imports = Pattern.compile("import ([^;]*);").matcher(code);
        while (imports.find()) none("import " + imports.group(1), !imports.group(1).equals("java.util.Arrays"));
        int from = 0;
        String[] lines = source.split("\n");
        for (int i = 0; i < lines.length; i++) {
            if (lines[i].matches(" {4}( {4})?[\\w\\[\\] ]+\\(.*\\{")) from = i;
            boolean ends = lines[i].matches(" {4}( {4})?\\}");
            none("a method of over sixty lines ends in line " + (i + 1), ends && from > 0 && i - from > 60 && !endsClass(lines, i));
        }
    }

    /** A class inside ends with four blanks, too, behind a method that has ended. */
    private static boolean endsClass(String[] lines, int i) {
        return lines[i].equals("    }") && lines[i - 1].equals("        }");
    }
}
