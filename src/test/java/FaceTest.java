import java.io.IOException;
import java.lang.reflect.Constructor;
import java.lang.reflect.Field;
import java.lang.reflect.Method;
import java.lang.reflect.Modifier;
import java.nio.file.Files;
import java.nio.file.Path;
import java.util.ArrayList;
import java.util.List;
import java.util.Random;
import java.util.TreeSet;
import java.util.regex.Pattern;

/** The public face is the document's and no more; the source keeps to its language; no call ever throws. */
public final class FaceTest {
    private static final List<String> METHODS = List.of("void type(long)", "int read()", "int rows(int)",
            "int row(int,int,int)", "int letter(int,int,int,int)", "long low(int,int)", "long high(int,int)",
            "int check(int)", "boolean same(int,int)", "int differ(int,int)", "int change(int,int)",
            "int print(int)", "int fold()", "int at(int)");
    private static final Path SOURCE = Path.of("src/main/java/PackageRows.java");
    private static int wrong = 0;

    public static void main(String[] args) throws IOException {
        face();
        source();
        classes();
        shortMethods();
        anyArguments();
        System.out.println(wrong == 0 ? "the face is as due" : wrong + " things are not as due");
        if (wrong != 0) {
            System.exit(1);
        }
    }

    private static void due(boolean holds, String what) {
        if (!holds) {
            wrong++;
            System.out.println("not so: " + what);
        }
    }

    private static void face() {
        due(Modifier.isPublic(PackageRows.class.getModifiers()), "the class is public");
        due(Modifier.isFinal(PackageRows.class.getModifiers()), "the class is final");
        List<String> names = new ArrayList<>();
        List<String> found = new ArrayList<>();
        List<String> hidden = new ArrayList<>();
        for (Method method : PackageRows.class.getDeclaredMethods()) {
            if (Modifier.isPrivate(method.getModifiers())) {
                hidden.add(method.getName());
                continue;
            }
            List<String> types = new ArrayList<>();
            for (Class<?> type : method.getParameterTypes()) {
                types.add(type.getName());
            }
            names.add(method.getName());
            found.add(method.getReturnType().getName() + " " + method.getName() + "(" + String.join(",", types) + ")");
            due(Modifier.isPublic(method.getModifiers()), method + " is public");
            due(!Modifier.isStatic(method.getModifiers()), method + " is not static");
        }
        due(new TreeSet<>(found).equals(new TreeSet<>(METHODS)), "the methods are the document's: " + found);
        hidden.retainAll(names);
        due(hidden.isEmpty(), "no private method bears the name of a public one: " + hidden);
        for (Field field : PackageRows.class.getDeclaredFields()) {
            due(Modifier.isPrivate(field.getModifiers()) || field.getName().equals("NONE"), field + " is private");
        }
        Constructor<?>[] constructors = PackageRows.class.getDeclaredConstructors();
        due(constructors.length == 1 && constructors[0].getParameterCount() == 0
                && Modifier.isPublic(constructors[0].getModifiers()), "one public constructor without parameters");
        for (Class<?> inside : PackageRows.class.getDeclaredClasses()) {
            due(Modifier.isStatic(inside.getModifiers()), inside + " is static");
        }
    }

    /** What LANGUAGE.md rules out, as far as words tell it; the compiler and the face tell the rest. */
    private static void source() throws IOException {
        String source = Files.readString(SOURCE).replaceAll("(?s)/\\*.*?\\*/", "").replaceAll("//.*", "");
        String code = source.replaceAll("\"[^\"]*\"", "\"\"");
        String[] patterns = {"(?m)^\\s*package\\b", "import(?! java\\.util\\.\\w+;)",
            "import java\\.util\\.(Random|Scanner|Date)", "\\b(finally|assert|synchronized|native|volatile|Thread)\\b",
            "\\bstatic\\s*\\{", "::", "\\)\\s*->", "\\bMath\\.(\\w+Exact|random)\\b", "\\bSystem\\.(?!arraycopy)",
            "\\b(equals|hashCode|toString)\\(.*\\)\\s*\\{",
            "catch\\s*\\(\\s*(ArrayIndex|NullPointer|ClassCast|NegativeArray|ArrayStore|Exception|Throwable|Error)"};
        for (String pattern : patterns) {
            due(!Pattern.compile(pattern).matcher(code).find(), "nothing like " + pattern + " in the source");
        }
    }

    /** Rules 1, 5 and 11: what classes may hold, and how much of it. */
    private static void classes() {
        List<Class<?>> all = new ArrayList<>(List.of(PackageRows.class.getDeclaredClasses()));
        all.add(PackageRows.class);
        due(all.size() <= 12, "at most twelve classes: " + all.size());
        for (Class<?> one : all) {
            int fields = 0;
            for (Field field : one.getDeclaredFields()) {
                boolean isStatic = Modifier.isStatic(field.getModifiers());
                fields += isStatic ? 0 : 1;
                due(!isStatic || Modifier.isFinal(field.getModifiers()), field + " is final");
            }
            due(fields <= 20, one + " has at most twenty fields: " + fields);
            for (Method method : one.getDeclaredMethods()) {
                due(method.getParameterCount() <= 7, method + " takes at most seven parameters");
            }
            for (Constructor<?> constructor : one.getDeclaredConstructors()) {
                due(constructor.getParameterCount() <= 7, constructor + " takes at most seven parameters");
            }
        }
    }

    /** Rule 11, by the lines from a method's head to the brace that stands below the head's first sign. */
    private static void shortMethods() throws IOException {
        List<String> lines = Files.readAllLines(SOURCE);
        int methods = 0;
        for (int n = 0; n < lines.size(); n++) {
            String head = lines.get(n);
            if (head.matches("( {4}| {8})\\w.*\\) \\{")) {
                methods++;
                String end = head.substring(0, head.length() - head.stripLeading().length()) + "}";
                int length = 1;
                while (n + length < lines.size() && !lines.get(n + length).equals(end)) {
                    length++;
                }
                due(length < 60, "at most sixty lines: " + head.strip());
            }
        }
        due(methods > 50, "the methods were found: " + methods);
    }

    /** All calls with ordinary and wild arguments. */
    private static void anyArguments() {
        Random random = new Random(7);
        String signs = "package a 1.0.0;need run b*;any c<1.0.0|d=2.0.0;feature f:g;default f;keeper k,l;file q 1;";
        for (int run = 0; run < 1000; run++) {
            Calls x = new Calls();
            for (int call = 0; call < 480; call++) {
                if (random.nextInt(20) == 0 && x.hasRoomFor(50)) {
                    typeAndUse(x, signs, random);
                }
                if (x.hasRoomFor(2)) {
                    anyCall(x, random);
                }
            }
        }
    }

    private static void typeAndUse(Calls x, String signs, Random random) {
        int length = random.nextInt(3) == 0 ? random.nextInt(signs.length()) : signs.length();
        x.typeText(signs.substring(0, length));
        if (random.nextInt(10) == 0) {
            x.type(random.nextLong());
        }
        due(x.read() < 40, "a package's number is below 40");
    }

    private static void anyCall(Calls x, Random random) {
        int a = any(random);
        int b = any(random);
        int c = any(random);
        switch (random.nextInt(14)) {
            case 0 -> x.type(random.nextLong());
            case 1 -> due(x.read() < 40, "a package's number is below 40");
            case 2 -> x.rows(a);
            case 3 -> x.row(a, b, c);
            case 4 -> x.letter(a, b, c, any(random));
            case 5 -> x.low(a, b);
            case 6 -> x.high(a, b);
            case 7 -> x.check(a);
            case 8 -> due(x.same(a, b) == x.same(b, a), "same goes both ways");
            case 9 -> due(x.differ(a, b) == x.differ(b, a), "differ goes both ways");
            case 10 -> x.change(a, b);
            case 11 -> x.print(a);
            case 12 -> x.fold();
            default -> x.at(a);
        }
    }

    private static int any(Random random) {
        int[] wild = {Integer.MIN_VALUE, Integer.MAX_VALUE, -1, 40, 200, 400, 2000};
        return random.nextInt(5) == 0 ? wild[random.nextInt(wild.length)] : random.nextInt(5);
    }
}
