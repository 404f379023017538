import java.io.IOException;
import java.lang.reflect.Constructor;
import java.lang.reflect.Field;
import java.lang.reflect.Method;
import java.lang.reflect.Modifier;
import java.nio.file.Files;
import java.nio.file.Path;
import java.util.Random;
import java.util.Set;
import java.util.TreeSet;

/** The public face, no machine exception whatever the arguments, and some of the rules of LANGUAGE.md. */
public final class FaceTest {
    private static final Check CHECK = new Check();
    private static final String[] FACE = {"int feed(long)", "int end(int)", "int text()", "int fault()", "int rule(int)", "int cell(int)",
        "int put(int,int)", "int heat(int)", "int drop(int,int,int)", "int go(int)", "int seed(int)", "int of(int,int)", "int at(int)",
        "int now(int)", "int points(int)", "int keep(int)", "int back(int)", "int alone(int,int,int,int,int)", "int reach(int,int,int,int)",
        "int ring(int,int,int,int)", "long falls(int,int,int)", "int mend(int,int,int,int,int)", "int life(int,int,boolean)",
        "int hump(int,boolean,int)", "int hot(int,int,boolean,int)", "long odds(int,int,int,int)", "int cools(int,int,int)",
        "int saw(int,int,boolean,int)", "int forget()", "int fits(int)", "int right()", "int sheet(int,int,int)", "int lay(int,int,int)",
        "int read(int,int,int,int)", "int torn()", "int count(int)"};

    public static void main(String[] args) throws Exception {
        face();
        anyArguments();
        words();
        CHECK.end("FaceTest");
    }

    private static void face() {
        Set<String> due = new TreeSet<>(java.util.Arrays.asList(FACE));
        Set<String> names = new TreeSet<>(), found = new TreeSet<>();
        for (Method m : DropsDance.class.getDeclaredMethods()) {
            if (!Modifier.isPrivate(m.getModifiers())) {
                StringBuilder b = new StringBuilder(m.getReturnType() + " " + m.getName() + "(");
                for (Class<?> p : m.getParameterTypes()) {
                    b.append(b.charAt(b.length() - 1) == '(' ? "" : ",").append(p);
                }
                found.add(b.append(")").toString());
                names.add(m.getName());
                CHECK.holds("public: " + m, Modifier.isPublic(m.getModifiers()));
            }
        }
        CHECK.holds("methods " + found, found.equals(due));
        Set<String> constants = new TreeSet<>();
        for (Field f : DropsDance.class.getDeclaredFields()) {
            if (!Modifier.isPrivate(f.getModifiers())) {
                constants.add(Modifier.toString(f.getModifiers()) + " " + f.getType() + " " + f.getName());
            }
        }
        String constant = "public static final int ";
        CHECK.holds("constants " + constants, constants.equals(new TreeSet<>(Set.of(constant + "BAD", constant + "STATE", constant + "FULL", constant + "NONE"))));
        Constructor<?>[] makers = DropsDance.class.getDeclaredConstructors();
        CHECK.holds("constructor", makers.length == 1 && Modifier.isPublic(makers[0].getModifiers()) && makers[0].getParameterCount() == 0);
        CHECK.holds("final", Modifier.isFinal(DropsDance.class.getModifiers()));
        for (Class<?> inside : DropsDance.class.getDeclaredClasses()) {
            CHECK.holds("static: " + inside, Modifier.isStatic(inside.getModifiers()));
            for (Method m : inside.getDeclaredMethods()) {
                CHECK.holds("a name of the face inside: " + m, !names.contains(m.getName()));
            }
        }
    }

    private static void anyArguments() throws Exception {
        int[] edges = {Integer.MIN_VALUE, -97, -1, 0, 1, 2, 3, 4, 5, 11, 12, 13, 39, 40, 41, 60, 61, 95, 96, 99, 100, 200, 201, 400, 401, 999, 1000,
            Integer.MAX_VALUE - 1, Integer.MAX_VALUE};
        Method[] methods = DropsDance.class.getMethods();
        Random random = new Random(3);
        for (int run = 0; run < 400; run++) {
            DropsDance x = new DropsDance();
            for (int call = 0; call < 512; call++) {
                Method m = methods[random.nextInt(methods.length)];
                if (m.getDeclaringClass() != DropsDance.class) {
                    continue;
                }
                Object[] arguments = new Object[m.getParameterCount()];
                for (int i = 0; i < arguments.length; i++) {
                    Class<?> type = m.getParameterTypes()[i];
                    int v = edges[random.nextInt(edges.length)];
                    arguments[i] = type == boolean.class ? (Object) random.nextBoolean() : type == long.class ? (Object) random.nextLong() : (Object) v;
                }
                try {
                    m.invoke(x, arguments);
                } catch (java.lang.reflect.InvocationTargetException e) {
                    CHECK.holds(m.getName() + java.util.Arrays.toString(arguments) + " threw " + e.getCause(), false);
                }
            }
        }
    }

    private static void words() throws IOException {
        String source = Files.readString(Path.of("src/main/java/DropsDance.java"));
        String code = source.replaceAll("(?s)/\\*.*?\\*/", " ").replaceAll("//[^\n]*", " ");
        String[] banned = {"throw", "throws", "try", "catch", "synchronized", "assert", "package", "protected", "Exact", "Random", "Thread", "System.out", "->", "::"};
        for (String word : banned) {
            boolean letters = Character.isLetter(word.charAt(0));
            java.util.regex.Pattern p = java.util.regex.Pattern.compile(letters && !word.equals("Exact") ? "\\b" + word + "\\b" : word);
            CHECK.holds("the program has " + word, !p.matcher(code).find());
        }
        java.util.regex.Matcher imports = java.util.regex.Pattern.compile("import ([^;]*);").matcher(code);
        while (imports.find()) {
            CHECK.holds("import " + imports.group(1), Set.of("java.util.Arrays", "java.util.ArrayList", "java.util.List", "java.util.Iterator").contains(imports.group(1)));
        }
    }
}
