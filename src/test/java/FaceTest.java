import java.lang.reflect.Constructor;
import java.lang.reflect.Field;
import java.lang.reflect.Method;
import java.lang.reflect.Modifier;
import java.nio.file.Files;
import java.nio.file.Path;
import java.util.ArrayList;
import java.util.Collections;
import java.util.List;

/** The face of the class is the one that the document prints, and nothing else of it can be seen. */
public final class FaceTest {
    public static void main(String[] args) throws Exception {
        List<String> due = documentFace(Path.of("../shared/DOC.md"));
        List<String> got = classFace();
        Collections.sort(due);
        Collections.sort(got);
        Check.due("the face", String.join("\n", got), String.join("\n", due));
        Check.due("lines of the face", due.size(), 70);
        checkHidden();
        constants();
        Check.finish();
    }

    private static List<String> documentFace(Path document) throws Exception {
        List<String> face = new ArrayList<>();
        boolean inside = false;
        for (String line : Files.readAllLines(document)) {
            if (line.startsWith("```")) {
                inside = line.equals("```java");
            } else if (inside && line.startsWith("    public ")) {
                face.add(line.trim().replaceAll("\\b(int|boolean) [a-z]\\w*(?=[,)])", "$1"));
            }
        }
        return face;
    }

    private static List<String> classFace() throws Exception {
        List<String> face = new ArrayList<>();
        for (Field field : OverlapBench.class.getFields()) {
            face.add(Modifier.toString(field.getModifiers()) + " " + field.getType() + " " + field.getName() + " = "
                    + field.getInt(null) + ";");
        }
        for (Constructor<?> made : OverlapBench.class.getConstructors()) {
            face.add("public " + made.getName() + "(" + types(made.getParameterTypes()) + ");");
        }
        for (Method method : OverlapBench.class.getDeclaredMethods()) {
            if (Modifier.isPublic(method.getModifiers())) {
                String thrown = types(method.getExceptionTypes());
                face.add("public " + method.getReturnType() + " " + method.getName() + "("
                        + types(method.getParameterTypes()) + ")" + (thrown.isEmpty() ? "" : " throws " + thrown) + ";");
            }
        }
        return face;
    }

    private static String types(Class<?>[] types) {
        StringBuilder text = new StringBuilder();
        for (Class<?> type : types) {
            text.append(text.length() == 0 ? "" : ", ").append(type.getSimpleName());
        }
        return text.toString();
    }

    private static void checkHidden() {
        Check.due("final", Modifier.isFinal(OverlapBench.class.getModifiers()), true);
        for (Method method : OverlapBench.class.getDeclaredMethods()) {
            int modifiers = method.getModifiers();
            Check.due(method.getName(), Modifier.isPublic(modifiers) || Modifier.isPrivate(modifiers), true);
        }
        for (Field field : OverlapBench.class.getDeclaredFields()) {
            int modifiers = field.getModifiers();
            Check.due(field.getName(), Modifier.isPublic(modifiers) || Modifier.isPrivate(modifiers), true);
        }
        for (Class<?> inside : OverlapBench.class.getDeclaredClasses()) {
            int modifiers = inside.getModifiers();
            Check.due(inside.getName(), Modifier.isStatic(modifiers) && !Modifier.isPublic(modifiers), true);
        }
    }

    private static void constants() {
        Check.due("NONE", OverlapBench.NONE, -1);
        Check.due("SYNTAX_ERROR", OverlapBench.SYNTAX_ERROR, 1);
        Check.due("RANGE_ERROR", OverlapBench.RANGE_ERROR, 2);
        Check.due("NAME_ERROR", OverlapBench.NAME_ERROR, 3);
        Check.due("RULE_ERROR", OverlapBench.RULE_ERROR, 4);
        Check.due("LIMIT_ERROR", OverlapBench.LIMIT_ERROR, 5);
    }
}
