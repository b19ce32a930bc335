import java.io.IOException;
import java.lang.reflect.Constructor;
import java.lang.reflect.Field;
import java.lang.reflect.Method;
import java.lang.reflect.Modifier;
import java.nio.file.Files;
import java.nio.file.Path;
import java.util.Arrays;
import java.util.Set;
import java.util.TreeSet;

/** The class has the document's face and nothing beside it, and keeps to what LANGUAGE.md leaves. */
public final class FaceTest {
    private static final String I = "IndexOutOfBoundsException";
    private static final String A = "IllegalArgumentException";
    private static final String S = "IllegalStateException";

    private static final String[] FACE = {
        "int snow(int,int) " + I + " " + A + " " + S,
        "int melt(int,int) " + I + " " + A + " " + S,
        "int flow(int) " + I + " " + S,
        "int endYear(boolean) " + S,
        "int compact(int) " + A + " " + S,
        "int forge(int,int,int) " + I + " " + A,
        "int throwAway(int) " + A + " " + S,
        "int year()",
        "int iceAt(int) " + I,
        "int ice()",
        "int thickest()",
        "int deeds()",
        "int deedsOf(int) " + I,
        "int sealOf(int) " + I,
        "boolean isCompacted(int) " + I,
        "boolean isFalse(int) " + I,
        "int firstFalse()",
        "int cores()",
        "int yearOf(int) " + I,
        "int iceOfCore(int) " + I,
        "boolean canReplay(int) " + A,
        "int replayedFrom(int) " + A,
        "int replayCost(int) " + A + " " + S,
        "int iceInYear(int,int) " + I + " " + A + " " + S,
        "int richestYear()",
        "int iceAfter(int) " + A,
        "int bestCore()",
        "double meanIce()",
        "long digest()",
    };

    public static void main(String[] args) throws IOException {
        methods();
        restOfTheClass();
        if (args.length > 0) {
            text(Files.readString(Path.of(args[0])));
        }
        Checks.end();
    }

    private static void methods() {
        Set<String> want = new TreeSet<>(Arrays.asList(FACE));
        Set<String> got = new TreeSet<>();
        Set<String> publicNames = new TreeSet<>();
        for (Method method : GlacierYears.class.getDeclaredMethods()) {
            if (Modifier.isPublic(method.getModifiers())) {
                publicNames.add(method.getName());
                Checks.same("static " + method, "" + Modifier.isStatic(method.getModifiers()), "false");
            }
            if (!Modifier.isPrivate(method.getModifiers())) {
                got.add(written(method));
            }
        }
        Checks.same("the methods", got.toString(), want.toString());
        for (Method method : GlacierYears.class.getDeclaredMethods()) {
            if (Modifier.isPrivate(method.getModifiers())) {
                Checks.same("a private " + method.getName() + " beside a public one",
                        "" + publicNames.contains(method.getName()), "false");
            }
        }
    }

    private static String written(Method method) {
        StringBuilder text = new StringBuilder();
        text.append(method.getReturnType()).append(' ').append(method.getName()).append('(');
        String comma = "";
        for (Class<?> type : method.getParameterTypes()) {
            text.append(comma).append(type);
            comma = ",";
        }
        text.append(')');
        for (Class<?> type : method.getExceptionTypes()) {
            text.append(' ').append(type.getSimpleName());
        }
        return text.toString();
    }

    private static void restOfTheClass() {
        Class<?> type = GlacierYears.class;
        Checks.same("the class is", Modifier.toString(type.getModifiers()), "public final");
        Checks.same("its constructors", "" + type.getDeclaredConstructors().length, "1");
        for (Constructor<?> made : type.getDeclaredConstructors()) {
            Checks.same("the constructor", made.toString(), "public GlacierYears()");
        }
        for (Field field : type.getDeclaredFields()) {
            Checks.same(field + " is private", "" + Modifier.isPrivate(field.getModifiers()), "true");
            if (Modifier.isStatic(field.getModifiers())) {
                Checks.same(field + " is final", "" + Modifier.isFinal(field.getModifiers()), "true");
            }
        }
        for (Class<?> inside : type.getDeclaredClasses()) {
            Checks.same(inside + " is static", "" + Modifier.isStatic(inside.getModifiers()), "true");
            Checks.same(inside + " is public", "" + Modifier.isPublic(inside.getModifiers()), "false");
        }
    }

    private static void text(String source) {
        String[] forbidden = {"import ", "package ", "catch ", "finally", "->", "::", "synchronized",
            "assert ", "System.out", "System.nano", "System.current", "Random", "Thread", "native "};
        for (String word : forbidden) {
            Checks.same("'" + word + "' in the text", "" + source.contains(word), "false");
        }
    }
}
