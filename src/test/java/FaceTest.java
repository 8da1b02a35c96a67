import java.lang.reflect.Constructor;
import java.lang.reflect.Field;
import java.lang.reflect.Method;
import java.lang.reflect.Modifier;
import java.nio.file.Files;
import java.nio.file.Path;
import java.util.Arrays;
import java.util.List;
import java.util.TreeSet;

/** The public face, and those rules of LANGUAGE.md that can be seen from the compiled class or from single words. */
public final class FaceTest {

    private static final List<String> FACE = List.of(
            "int reset(int)", "int setEntry(int,int,int)", "int entry(int,int)", "int size()",
            "int essentialStates()", "int trim()", "long paths(int,int,int)", "int componentCount()",
            "int componentOf(int)", "int isIrreducible()", "int periodOf(int)", "long blocks(int)",
            "long periodicPoints(int)", "long orbits(int)", "long coefficient(int)", "int radiusTenths()",
            "long determinant()", "long factor(int)", "int setShare(int,int)", "int outSplit(int)",
            "int inSplit(int)", "int outMerge(int,int)", "int inMerge(int,int)", "int coreSize()", "int save()",
            "int swapSaved()", "int differences()", "int undo()");

    private static final List<String> FORBIDDEN = List.of(
            "import ", "package ", "throw", "try ", "catch", "finally", "synchronized", "assert", "->", "::", "@",
            "Exact(", "equals(", "hashCode(", "toString(", "System.out", "Random", "Thread", "transient", "volatile");

    public static void main(String[] args) throws java.io.IOException {
        words(Files.readString(Path.of("src/main/java/ShiftWorkbench.java")));
        constants();
        members();
        namesOfPrivateMethods();
        fields(ShiftWorkbench.class);
        for (Class<?> inner : ShiftWorkbench.class.getDeclaredClasses()) {
            fields(inner);
            holds(inner + " is static and not public", Modifier.isStatic(inner.getModifiers())
                    && !Modifier.isPublic(inner.getModifiers()) && !Modifier.isProtected(inner.getModifiers()));
        }
        Due.end();
    }

    private static void holds(String what, boolean is) {
        Due.is(what, is ? 1 : 0, 1);
    }

    private static void words(String source) {
        String code = source.replaceAll("(?s)/\\*.*?\\*/", "").replaceAll("//[^\n]*", "");
        for (String word : FORBIDDEN) {
            holds("the class is written without '" + word + "'", !code.contains(word));
        }
        holds("the class is written in ASCII", source.chars().allMatch(sign -> sign < 128));
    }

    private static void constants() {
        Due.is("INVALID_ARGUMENT", ShiftWorkbench.INVALID_ARGUMENT, -1000001);
        Due.is("NOT_POSSIBLE", ShiftWorkbench.NOT_POSSIBLE, -1000002);
        Due.is("LIMIT_REACHED", ShiftWorkbench.LIMIT_REACHED, -1000003);
        Due.is("NOT_FOUND", ShiftWorkbench.NOT_FOUND, -1000004);
    }

    private static void members() {
        int modifiers = ShiftWorkbench.class.getModifiers();
        holds("the class is public and final", Modifier.isPublic(modifiers) && Modifier.isFinal(modifiers));
        TreeSet<String> found = new TreeSet<>();
        for (Method method : ShiftWorkbench.class.getDeclaredMethods()) {
            if (!Modifier.isPrivate(method.getModifiers())) {
                holds(method + " is public", Modifier.isPublic(method.getModifiers()));
                holds(method + " is of the object", !Modifier.isStatic(method.getModifiers()));
                found.add(signature(method));
            }
        }
        holds("the methods are " + FACE + ", not " + found, found.equals(new TreeSet<>(FACE)));
        Constructor<?>[] constructors = ShiftWorkbench.class.getDeclaredConstructors();
        holds("one public constructor without arguments", constructors.length == 1
                && constructors[0].getParameterCount() == 0 && Modifier.isPublic(constructors[0].getModifiers()));
        long open = Arrays.stream(ShiftWorkbench.class.getDeclaredFields())
                .filter(field -> !Modifier.isPrivate(field.getModifiers())).count();
        Due.is("fields that are not private", open, 4);
    }

    private static String signature(Method method) {
        StringBuilder text = new StringBuilder();
        for (Class<?> type : method.getParameterTypes()) {
            text.append(text.isEmpty() ? "" : ",").append(type.getName());
        }
        return method.getReturnType().getName() + " " + method.getName() + "(" + text + ")";
    }

    private static void namesOfPrivateMethods() {
        TreeSet<String> open = new TreeSet<>();
        for (String signature : FACE) {
            open.add(signature.substring(signature.indexOf(' ') + 1, signature.indexOf('(')));
        }
        for (Class<?> inner : ShiftWorkbench.class.getDeclaredClasses()) {
            for (Method method : inner.getDeclaredMethods()) {
                holds(method + " has a name of its own", !open.contains(method.getName()));
            }
        }
        for (Method method : ShiftWorkbench.class.getDeclaredMethods()) {
            holds(method + " has a name of its own",
                    !Modifier.isPrivate(method.getModifiers()) || !open.contains(method.getName()));
        }
    }

    private static void fields(Class<?> owner) {
        for (Field field : owner.getDeclaredFields()) {
            boolean isStatic = Modifier.isStatic(field.getModifiers());
            holds(field + " is no static state", !isStatic || Modifier.isFinal(field.getModifiers()));
        }
    }
}
