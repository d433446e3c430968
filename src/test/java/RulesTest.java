import java.io.IOException;
import java.lang.reflect.Constructor;
import java.lang.reflect.Field;
import java.lang.reflect.Method;
import java.lang.reflect.Modifier;
import java.nio.file.Files;
import java.nio.file.Path;
import java.util.Arrays;
import java.util.Random;
import java.util.TreeSet;

/** The document's public face, what of LANGUAGE.md can be read off the class, and calls with any arguments in any state. */
public final class RulesTest {
    private static final String[] FACE = {"int point(int,int,int)", "int clear()", "boolean flat()", "int corners()",
        "int edges()", "int faces()", "int size(int)", "int at(int,int)", "long normal(int,int)", "long volume()",
        "long middle(int,int)", "int where(int,int,int,int)", "int cut(int,int,int,int)", "long cutAt(int,int,int)",
        "int shadow(int,int,int)", "long far(int,int,int,int)", "int way(int,int)", "int symmetries()",
        "int symmetry(int,int)", "int turn(int)", "int order(int)", "int regular()"};
    private static final String[] FORBIDDEN = {"throw", "try", "catch", "synchronized", "assert", "import", "package",
        "equals", "hashCode", "toString", "System.out", "System.exit", "Exact", "double", "float", "Object", "native",
        "Random", "Thread", "nanoTime", "currentTimeMillis"};
    private static int wrong = 0;

    private static void fault(String text) {
        wrong++;
        System.out.println(text);
    }

    private static String text(Method method) {
        StringBuilder text = new StringBuilder(method.getReturnType().getName() + " " + method.getName() + "(");
        Class<?>[] parameters = method.getParameterTypes();
        for (int k = 0; k < parameters.length; k++) {
            text.append(k == 0 ? "" : ",").append(parameters[k].getName());
        }
        return text.append(")").toString();
    }

    private static void face() {
        Class<?> type = SolidRows.class;
        if (!Modifier.isFinal(type.getModifiers()) || !Modifier.isPublic(type.getModifiers())) {
            fault("the class is not public and final");
        }
        TreeSet<String> found = new TreeSet<>();
        TreeSet<String> names = new TreeSet<>();
        for (Method method : type.getDeclaredMethods()) {
            if (Modifier.isPublic(method.getModifiers())) {
                found.add(text(method));
                names.add(method.getName());
            }
        }
        if (!found.equals(new TreeSet<>(Arrays.asList(FACE)))) {
            fault("the public methods are " + found);
        }
        hidden(type, names);
        for (Class<?> inside : type.getDeclaredClasses()) {
            for (Method method : inside.getDeclaredMethods()) {
                if (names.contains(method.getName())) {
                    fault(inside.getSimpleName() + "." + method.getName() + " bears a public name");
                }
                parameters(method);
            }
            fields(inside);
            if (!Modifier.isStatic(inside.getModifiers())) {
                fault(inside + " is not static");
            }
        }
    }

    private static void hidden(Class<?> type, TreeSet<String> names) {
        for (Method method : type.getDeclaredMethods()) {
            boolean open = Modifier.isPublic(method.getModifiers());
            if (!open && (!Modifier.isPrivate(method.getModifiers()) || names.contains(method.getName()))) {
                fault(method + " is seen from outside or bears a public name");
            }
            parameters(method);
        }
        for (Field field : type.getDeclaredFields()) {
            boolean constant = field.getName().equals("NOTHING") && field.getType() == long.class
                && field.getModifiers() == (Modifier.PUBLIC | Modifier.STATIC | Modifier.FINAL);
            if (!constant && !Modifier.isPrivate(field.getModifiers())) {
                fault(field + " is seen from outside");
            }
        }
        Constructor<?>[] constructors = type.getDeclaredConstructors();
        if (constructors.length != 1 || constructors[0].getParameterCount() != 0
            || !Modifier.isPublic(constructors[0].getModifiers())) {
            fault("the constructors are " + Arrays.toString(constructors));
        }
        fields(type);
    }

    private static void parameters(Method method) {
        if (method.getParameterCount() > 7) {
            fault(method + " takes more than seven parameters");
        }
    }

    private static void fields(Class<?> type) {
        int own = 0;
        for (Field field : type.getDeclaredFields()) {
            boolean shared = Modifier.isStatic(field.getModifiers());
            if (shared && !Modifier.isFinal(field.getModifiers())) {
                fault(field + " is static, but not final");
            }
            own += shared ? 0 : 1;
        }
        if (own > 20) {
            fault(type + " has " + own + " fields");
        }
    }

    private static void source() throws IOException {
        String code = Files.readString(Path.of("src/main/java/SolidRows.java"))
            .replaceAll("(?s)/\\*.*?\\*/", "").replaceAll("//[^\n]*", "");
        for (String word : FORBIDDEN) {
            if (code.matches("(?s).*(?<![A-Za-z])" + word.replace(".", "\\.") + "(?![A-Za-z]).*")) {
                fault("the program has the word " + word);
            }
        }
        if (code.contains("->") || code.contains("::") || code.contains("@")) {
            fault("the program has a lambda, a method reference or an annotation");
        }
    }

    private static int odd(Random random) {
        int[] ends = {Integer.MIN_VALUE, Integer.MIN_VALUE + 1, Integer.MAX_VALUE, -1, 0, 1, 2, 3, 4, 14, 20, 21, -20, -21,
            24, 31, 32, 33, 48, 64, 1000, 1001, 2000, 2001, -2000, -2001, 100000, 100001, -100000, -100001};
        switch (random.nextInt(4)) {
            case 0: return ends[random.nextInt(ends.length)];
            case 1: return random.nextInt(51) - 3;
            case 2: return random.nextInt(7) - 3;
            default: return random.nextInt(41) - 20;
        }
    }

    private static long call(SolidRows solid, int which, Random random) {
        int a = odd(random);
        int b = odd(random);
        int c = odd(random);
        int d = odd(random);
        switch (which) {
            case 0: return solid.point(a, b, c);
            case 1: return random.nextInt(12) == 0 ? solid.clear() : 0;
            case 2: return solid.flat() ? 1 : 0;
            case 3: return solid.corners();
            case 4: return solid.edges();
            case 5: return solid.faces();
            case 6: return solid.size(a);
            case 7: return solid.at(a, b);
            case 8: return solid.normal(a, b);
            case 9: return solid.volume();
            case 10: return solid.middle(a, b);
            case 11: return solid.where(a, b, c, d);
            case 12: return solid.cut(a, b, c, d);
            case 13: return solid.cutAt(a, b, c);
            case 14: return solid.shadow(a, b, c);
            case 15: return solid.far(a, b, c, d);
            case 16: return solid.way(a, b);
            case 17: return solid.symmetries();
            case 18: return solid.symmetry(a, b);
            case 19: return solid.turn(a);
            case 20: return solid.order(a);
            case 21: return solid.regular();
            default: return solid.point(a % 3, b % 3, c % 3);
        }
    }

    /** No call throws, and the same calls answer the same on two objects. */
    private static void anyCalls() {
        for (int seed = 0; seed < 300; seed++) {
            Random one = new Random(seed);
            Random two = new Random(seed);
            SolidRows first = new SolidRows();
            SolidRows second = new SolidRows();
            for (int k = 0; k < 512; k++) {
                int which = one.nextInt(26);
                long answer = call(first, which, one);
                if (answer != call(second, two.nextInt(26), two)) {
                    fault("call " + which + " answered two things");
                }
            }
        }
    }

    public static void main(String[] args) throws IOException {
        face();
        source();
        anyCalls();
        System.out.println(wrong == 0 ? "all rules are kept" : wrong + " rules are not kept");
        if (wrong != 0) {
            System.exit(1);
        }
    }
}
