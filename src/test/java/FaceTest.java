import java.lang.reflect.Field;
import java.lang.reflect.Member;
import java.lang.reflect.Method;
import java.lang.reflect.Modifier;
import java.nio.file.Files;
import java.nio.file.Path;
import java.util.Arrays;
import java.util.Set;
import java.util.TreeSet;
import java.util.regex.Matcher;
import java.util.regex.Pattern;

/** The public face of the document, and those rules of LANGUAGE.md that can be read off the class and its text. */
public final class FaceTest {
    private static final Set<String> FACE = new TreeSet<>(Arrays.asList(
        "int put(int, int, int, int)", "boolean take(int)", "void clear()", "int node(int, int)",
        "int wall(int, int)", "long quotient(int, int, int)", "int leaf(int, int)", "int way(int, int)",
        "int step(int, int)", "int of(int, int)", "int look(int)"));
    private static final String[] FORBIDDEN = {
        "throw", "throws", "try", "catch", "synchronized", "assert", "protected", "package", "->", "::"
    };
    // Of the library that rule 4 leaves, what the class uses.
    private static final Set<String> LIBRARY = Set.of("Arrays.copyOf", "Math.abs", "Math.max", "Math.min");

    private static int wrong = 0;

    public static void main(String[] args) throws Exception {
        checkClass();
        checkMethods();
        checkFields();
        checkText();
        System.out.println(wrong == 0 ? "the face is as due" : wrong + " faults in the face");
        if (wrong != 0) {
            System.exit(1);
        }
    }

    private static void must(boolean holds, String text) {
        if (!holds) {
            wrong++;
            System.out.println(text);
        }
    }

    private static boolean isHidden(Member member) {
        return Modifier.isPrivate(member.getModifiers()) || member.isSynthetic();
    }

    private static void checkClass() throws Exception {
        int modifiers = NodeMaker.class.getModifiers();
        must(Modifier.isPublic(modifiers) && Modifier.isFinal(modifiers), "the class is not public and final");
        must(NodeMaker.class.getDeclaredConstructors().length == 1, "there is not one constructor");
        must(Modifier.isPublic(NodeMaker.class.getConstructor().getModifiers()), "the constructor is not public");
        for (Class<?> inside : NodeMaker.class.getDeclaredClasses()) {
            int m = inside.getModifiers();
            must(Modifier.isStatic(m) && !Modifier.isPublic(m), inside + " is public or not static");
            must(inside.getDeclaredFields().length <= 20, inside + " has too many fields");
            checkMethodsInside(inside);
        }
        must(NodeMaker.class.getDeclaredClasses().length <= 12, "there are too many classes");
    }

    private static void checkMethods() {
        Set<String> found = new TreeSet<>();
        Set<String> names = new TreeSet<>();
        for (Method m : NodeMaker.class.getDeclaredMethods()) {
            if (!isHidden(m)) {
                must(m.getModifiers() == Modifier.PUBLIC, m + " is not just public");
                String types = Arrays.toString(m.getParameterTypes());
                found.add(m.getReturnType() + " " + m.getName() + "(" + types.substring(1, types.length() - 1) + ")");
                names.add(m.getName());
            }
        }
        must(found.equals(FACE), "the methods are " + found);
        for (Method m : NodeMaker.class.getDeclaredMethods()) {
            must(!isHidden(m) || !names.contains(m.getName()), m + " bears the name of a public one");
        }
    }

    private static void checkMethodsInside(Class<?> inside) {
        for (Method m : inside.getDeclaredMethods()) {
            must(m.getParameterCount() <= 7, m + " takes too many parameters");
            String call = " " + m.getName() + "(";
            boolean namedAsOneOfTheFace = FACE.stream().anyMatch(f -> f.contains(call));
            must(!Modifier.isPrivate(m.getModifiers()) || !namedAsOneOfTheFace, m + " bears the name of a public one");
        }
    }

    private static void checkFields() throws Exception {
        for (Field f : NodeMaker.class.getDeclaredFields()) {
            must(isHidden(f) || f.getName().equals("NONE"), f + " is not private");
            must(!Modifier.isStatic(f.getModifiers()) || Modifier.isFinal(f.getModifiers()), f + " is not final");
        }
        Field none = NodeMaker.class.getField("NONE");
        must(Modifier.isStatic(none.getModifiers()) && none.getType() == int.class, "NONE is no static int");
    }

    private static void checkText() throws Exception {
        String text = Files.readString(Path.of("src/main/java/NodeMaker.java"));
        String code = text.replaceAll("(?s)/\\*.*?\\*/", "").replaceAll("//.*", "");
        for (String word : FORBIDDEN) {
            String border = Character.isLetter(word.charAt(0)) ? "\\b" : "";
            must(!Pattern.compile(border + Pattern.quote(word) + border).matcher(code).find(), "the text has: " + word);
        }
        Matcher call = Pattern.compile("\\b[A-Z]\\w*\\.\\w+(?=\\()").matcher(code);
        while (call.find()) {
            must(LIBRARY.contains(call.group()), "the text calls: " + call.group());
        }
        must(code.lines().filter(l -> l.startsWith("import")).allMatch("import java.util.Arrays;"::equals), "other imports");
    }
}
