import java.lang.reflect.Constructor;
import java.lang.reflect.Field;
import java.lang.reflect.Method;
import java.lang.reflect.Modifier;
import java.nio.charset.StandardCharsets;
import java.nio.file.Files;
import java.nio.file.Path;
import java.util.ArrayList;
import java.util.Arrays;
import java.util.List;
import java.util.TreeSet;
import java.util.regex.Matcher;
import java.util.regex.Pattern;

/** The document's face, whole and nothing beside it, and the rules of LANGUAGE.md that a text or a mirror can show. */
public final class FaceTest {

    private static final String[] METHODS = {
        "boolean root(int)", "int form(int,int)", "int number(int,int)", "int least(int)", "int step(int)",
        "int reduce(int)", "long way(int)", "int ring(int)", "int classOf(int)",
        "int check(int,int,int,int,int,int)", "int classes()", "int head(int,int)", "int one()",
        "int join(int,int)", "int back(int)", "int order(int)", "int group(int)", "int genus(int)",
        "int genera()", "long unit(int)", "int period(int)", "int quotient(int,int)",
        "long near(int,int,boolean)", "int takes(int,int)", "int proper(int,int)", "int squares(int)",
        "int pair(int,boolean)", "int undo()", "int size(int)", "int trouble()"
    };
    private static final String[] FORBIDDEN = {
        "throw", "throws", "try", "catch", "synchronized", "assert", "import", "package", "hashCode", "toString",
        "System.currentTimeMillis", "Random", "Thread", "\\w+Exact", "->", "::", "double", "float"
    };

    private static int wrong = 0;

    public static void main(String[] args) throws Exception {
        checkMembers();
        checkNested();
        checkText();
        System.out.println(wrong == 0 ? "the face is as due" : wrong + " faults");
        if (wrong != 0) {
            System.exit(1);
        }
    }

    private static void expect(boolean holds, String what) {
        if (!holds) {
            wrong++;
            System.out.println(what);
        }
    }

    private static void checkMembers() throws Exception {
        Class<?> face = RootForms.class;
        expect(Modifier.isPublic(face.getModifiers()) && Modifier.isFinal(face.getModifiers()), "public and final");
        TreeSet<String> due = new TreeSet<>(Arrays.asList(METHODS));
        TreeSet<String> names = new TreeSet<>();
        for (String method : METHODS) {
            names.add(method.substring(method.indexOf(' ') + 1, method.indexOf('(')));
        }
        for (Method method : face.getDeclaredMethods()) {
            if (method.isSynthetic()) {
                continue;
            }
            if (Modifier.isPrivate(method.getModifiers())) {
                expect(!names.contains(method.getName()), "private method with a public one's name: " + method);
                continue;
            }
            expect(Modifier.isPublic(method.getModifiers()) && !Modifier.isStatic(method.getModifiers()),
                "not plainly public: " + method);
            expect(due.remove(signature(method)), "not of the document's face: " + method);
        }
        expect(due.isEmpty(), "missing: " + due);
        Constructor<?>[] makers = face.getDeclaredConstructors();
        expect(makers.length == 1 && makers[0].getParameterCount() == 0 && Modifier.isPublic(makers[0].getModifiers()),
            "one public constructor without parameters");
        checkFields(face);
        Field none = face.getField("NONE");
        expect(none.getType() == int.class && none.getInt(null) == -1, "NONE is the int -1");
    }

    private static void checkFields(Class<?> face) {
        int own = 0;
        for (Field field : face.getDeclaredFields()) {
            boolean isStatic = Modifier.isStatic(field.getModifiers());
            expect(!isStatic || Modifier.isFinal(field.getModifiers()), "static and not final: " + field);
            if (face == RootForms.class && !field.getName().equals("NONE")) {
                expect(Modifier.isPrivate(field.getModifiers()), "visible: " + field);
            }
            own += isStatic ? 0 : 1;
        }
        expect(own <= 20, "too many fields in " + face);
    }

    private static void checkNested() {
        Class<?>[] nested = RootForms.class.getDeclaredClasses();
        expect(nested.length <= 11, "too many classes");
        TreeSet<String> names = new TreeSet<>();
        for (Method method : RootForms.class.getMethods()) {
            names.add(method.getName());
        }
        for (Class<?> inner : nested) {
            expect(Modifier.isStatic(inner.getModifiers()), "not static: " + inner);
            checkFields(inner);
            for (Method method : inner.getDeclaredMethods()) {
                expect(!names.contains(method.getName()), "a public method's name: " + method);
                expect(method.getParameterCount() <= 7, "too many parameters: " + method);
            }
        }
    }

    private static String signature(Method method) {
        List<String> parts = new ArrayList<>();
        for (Class<?> type : method.getParameterTypes()) {
            parts.add(type.getName());
        }
        return method.getReturnType().getName() + " " + method.getName() + "(" + String.join(",", parts) + ")";
    }

    private static void checkText() throws Exception {
        byte[] raw = Files.readAllBytes(Path.of("src/main/java/RootForms.java"));
        String text = new String(raw, StandardCharsets.ISO_8859_1)
            .replaceAll("(?s)/\\*.*?\\*/", " ").replaceAll("//[^\n]*", " ");
        for (String word : FORBIDDEN) {
            String pattern = Character.isLetter(word.charAt(0)) || word.startsWith("\\w") ? "\\b" + word + "\\b" : word;
            Matcher matcher = Pattern.compile(pattern).matcher(text);
            expect(!matcher.find(), "outside the language: " + word);
        }
        for (byte letter : raw) {
            expect(letter >= 0, "a letter beyond ASCII");
        }
    }
}
