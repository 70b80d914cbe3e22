import java.io.IOException;
import java.lang.reflect.Constructor;
import java.lang.reflect.Field;
import java.lang.reflect.Member;
import java.lang.reflect.Method;
import java.lang.reflect.Modifier;
import java.nio.file.Files;
import java.nio.file.Path;
import java.util.ArrayList;
import java.util.Arrays;
import java.util.HashSet;
import java.util.List;
import java.util.Set;
import java.util.TreeSet;
import java.util.regex.Matcher;
import java.util.regex.Pattern;

/** The public face, and those rules of LANGUAGE.md that can be seen from outside the program. */
public final class FaceTest {
    private static final String[] FACE = {
        "boolean dual()", "boolean keep(int)", "boolean least()", "boolean line(int, int)", "boolean modulus(int)",
        "boolean pick(int, int, int)", "boolean set(int, int, int)", "boolean strands(int)", "boolean table(int)",
        "boolean turn(int, int)", "boolean twist(int, int, int)", "int at(int, int)", "int closed()", "int colours()",
        "int count(int)", "int cover()", "int fetch(int)", "int group(int)", "int is(int)", "int keepers()",
        "int letter(int)", "int like(int)", "int listed(int, int)", "int moves()", "int orbits()",
        "int part(int, int)", "int power(int, int)", "int row(int)", "int sums(int)", "int times(int)",
        "int twisted(int, int)", "int within(int)", "int wrong()"};

    /** What the rules leave out, as it would be written. */
    private static final String[] RULED_OUT = {
        "->", "::", "\\bsynchronized\\b", "\\bassert\\b", "\\bfinally\\b", "\\btry\\b", "\\bcatch\\b", "\\bpackage\\b",
        "\\bstatic\\s*\\{", "Exact\\b", "\\.getMessage\\b", "\\bSystem\\.(?!arraycopy\\b)", "\\bThread\\b",
        "\\bRandom\\b", "\\bMath\\.(?!floorMod\\b|min\\b|max\\b)", "\\bArrays\\.(?!fill\\b)", "\\bvar\\b",
        "[^\\x00-\\x7f]"};

    private static int wrong = 0;

    public static void main(String[] args) throws IOException {
        lookAtFace();
        lookAtNames();
        String source = Files.readString(Path.of(args.length > 0 ? args[0] : "src/main/java/RackBench.java"));
        lookAtText(source.replaceAll("(?s)/\\*.*?\\*/", "").replaceAll("//[^\n]*", ""));
        System.out.println("FaceTest: " + wrong + " faults");
        System.exit(wrong == 0 ? 0 : 1);
    }

    private static void due(boolean holds, String fault) {
        if (!holds) {
            wrong++;
            System.out.println(fault);
        }
    }

    private static void lookAtFace() {
        Class<?> c = RackBench.class;
        due(Modifier.isPublic(c.getModifiers()) && Modifier.isFinal(c.getModifiers()), "the class is public and final");
        Set<String> found = new TreeSet<>();
        for (Method m : c.getDeclaredMethods()) {
            if (!Modifier.isPrivate(m.getModifiers())) {
                due(Modifier.isPublic(m.getModifiers()), "neither public nor private: " + m);
                found.add(signature(m));
            }
        }
        due(found.equals(new TreeSet<>(Arrays.asList(FACE))), "the face is " + found);
        for (Constructor<?> made : c.getDeclaredConstructors()) {
            due(Modifier.isPublic(made.getModifiers()) && made.getParameterCount() == 0, "constructor: " + made);
        }
        for (Field f : c.getDeclaredFields()) {
            boolean constant = f.getName().equals("NONE") && Modifier.isPublic(f.getModifiers());
            due(constant || Modifier.isPrivate(f.getModifiers()), "field: " + f);
        }
        due(RackBench.NONE == -1, "NONE is -1");
    }

    private static String signature(Method m) {
        List<String> types = new ArrayList<>();
        for (Class<?> type : m.getParameterTypes()) {
            types.add(type.getName());
        }
        return m.getReturnType().getName() + " " + m.getName() + "(" + String.join(", ", types) + ")";
    }

    private static void lookAtNames() {
        Set<String> face = new HashSet<>();
        for (String signature : FACE) {
            face.add(signature.substring(signature.indexOf(' ') + 1, signature.indexOf('(')));
        }
        List<Class<?>> all = new ArrayList<>(Arrays.asList(RackBench.class.getDeclaredClasses()));
        due(all.size() <= 12, "classes: " + all.size());
        for (Class<?> c : all) {
            due(Modifier.isStatic(c.getModifiers()) && !Modifier.isPublic(c.getModifiers()), "class: " + c);
            for (Method m : c.getDeclaredMethods()) {
                due(!face.contains(m.getName()), "it bears a name of the face: " + m);
            }
        }
        all.add(RackBench.class);
        for (Class<?> c : all) {
            int fields = 0;
            for (Field f : c.getDeclaredFields()) {
                fields += Modifier.isStatic(f.getModifiers()) ? 0 : 1;
                due(!Modifier.isStatic(f.getModifiers()) || Modifier.isFinal(f.getModifiers()), "static state: " + f);
            }
            due(fields <= 20, "fields of " + c + ": " + fields);
            for (Method m : c.getDeclaredMethods()) {
                due(m.getParameterCount() <= 7, "parameters: " + m);
            }
        }
        for (Member m : RackBench.class.getDeclaredMethods()) {
            due(Modifier.isPublic(m.getModifiers()) || !face.contains(m.getName()), "it bears a name of the face: " + m);
        }
    }

    private static void lookAtText(String source) {
        for (String pattern : RULED_OUT) {
            Matcher m = Pattern.compile(pattern).matcher(source);
            due(!m.find(), "the source has " + pattern);
        }
        Matcher imports = Pattern.compile("import ([^;]*);").matcher(source);
        while (imports.find()) {
            boolean fine = imports.group(1).equals("java.util.Arrays")
                    || imports.group(1).equals("java.util.NoSuchElementException");
            due(fine, "import " + imports.group(1));
        }
        Matcher thrown = Pattern.compile("throw\\b(?! new NoSuchElementException\\(\"[^\"]*\"\\);)").matcher(source);
        due(!thrown.find(), "only NoSuchElementException is thrown");
    }
}
