import java.lang.reflect.Constructor;
import java.lang.reflect.Field;
import java.lang.reflect.Method;
import java.lang.reflect.Modifier;
import java.nio.file.Files;
import java.nio.file.Path;
import java.util.Arrays;
import java.util.Set;
import java.util.TreeSet;
import java.util.regex.Pattern;

// The public face of the document, and those rules of LANGUAGE.md that can be seen from outside or word by word.
public final class FaceTest {
    private static final Set<String> METHODS = Set.of(
        "add(int,int)", "remove(int)", "move(int,int,int)", "size()", "nearest(int,int,int)", "within(int,int,int)",
        "inBox(int,int,int,int)", "closest()", "clusters(int,int)", "clusterOf(int,int,int)", "noise(int,int)");
    private static final Set<String> CONSTANTS = Set.of("BAD", "FULL", "NONE");
    private static final String[] FORBIDDEN = {
        "package", "import", "float", "double", "String", "Object", "Math", "Integer", "System", "Arrays", "null",
        "throw", "throws", "try", "catch", "synchronized", "assert", "instanceof", "class\\s+\\w+.*\\bclass",
        "interface", "enum", "record", "protected", "->", "::", "static\\s*\\{"};

    public static void main(String[] args) throws Exception {
        theClass();
        theMethods();
        theFields();
        theSource();
        Due.end();
    }

    private static void theClass() {
        Due.is("modifiers of the class", NearTree.class.getModifiers(), Modifier.PUBLIC | Modifier.FINAL);
        Due.is("nested classes", NearTree.class.getDeclaredClasses().length, 0);
        Due.holds("nothing is extended", NearTree.class.getSuperclass() == Object.class);
        Due.is("interfaces", NearTree.class.getInterfaces().length, 0);
        Constructor<?>[] makers = NearTree.class.getDeclaredConstructors();
        Due.is("constructors", makers.length, 1);
        Due.is("parameters of the constructor", makers[0].getParameterCount(), 0);
        Due.holds("the constructor is public", Modifier.isPublic(makers[0].getModifiers()));
    }

    private static void theMethods() {
        Set<String> seen = new TreeSet<>();
        Set<String> publicNames = new TreeSet<>();
        for (Method method : NearTree.class.getDeclaredMethods()) {
            if (Modifier.isPublic(method.getModifiers())) {
                seen.add(signature(method));
                publicNames.add(method.getName());
                Due.holds(method + " answers an int", method.getReturnType() == int.class);
                Due.holds(method + " is not static", !Modifier.isStatic(method.getModifiers()));
                Due.is("thrown by " + method, method.getExceptionTypes().length, 0);
            }
        }
        Due.holds("the public methods are the document's, not " + seen, seen.equals(METHODS));
        for (Method method : NearTree.class.getDeclaredMethods()) {
            if (!Modifier.isPublic(method.getModifiers())) {
                Due.holds(method + " is private", Modifier.isPrivate(method.getModifiers()));
                Due.holds(method + " bears no public name", !publicNames.contains(method.getName()));
                Due.holds(method + " takes at most seven parameters", method.getParameterCount() <= 7);
                Due.holds(method + " answers no array", !method.getReturnType().isArray());
            }
        }
    }

    private static String signature(Method method) {
        String types = String.join(",", Arrays.stream(method.getParameterTypes()).map(Class::getName).toList());
        return method.getName() + "(" + types + ")";
    }

    private static void theFields() {
        Set<String> seen = new TreeSet<>();
        for (Field field : NearTree.class.getDeclaredFields()) {
            int modifiers = field.getModifiers();
            if (Modifier.isPublic(modifiers)) {
                seen.add(field.getName());
                Due.holds(field + " is a constant int", Modifier.isStatic(modifiers) && field.getType() == int.class);
            } else {
                Due.holds(field + " is private", Modifier.isPrivate(modifiers));
            }
            if (Modifier.isStatic(modifiers)) {
                Due.holds(field + " is final", Modifier.isFinal(modifiers));
                Due.holds(field + " is int or long", field.getType() == int.class || field.getType() == long.class);
            }
            Class<?> type = field.getType().isArray() ? field.getType().getComponentType() : field.getType();
            Due.holds(field + " is of numbers or truths", type.isPrimitive());
        }
        Due.holds("the public constants are the document's, not " + seen, seen.equals(CONSTANTS));
    }

    // .ci/run starts every test in the project's root.
    private static void theSource() throws Exception {
        String source = Files.readString(Path.of("src/main/java/NearTree.java"));
        String code = source.replaceAll("(?s)/\\*.*?\\*/", " ").replaceAll("//[^\n]*", " ");
        for (String word : FORBIDDEN) {
            String whole = Character.isLetter(word.charAt(0)) ? "\\b" + word + "\\b" : word;
            Due.holds("the source is without " + word, !Pattern.compile(whole).matcher(code).find());
        }
    }
}
