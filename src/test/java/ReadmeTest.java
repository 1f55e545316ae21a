import java.io.IOException;
import java.nio.file.Files;
import java.nio.file.Path;
import java.util.regex.Pattern;

/** The calls that README.md shows answer what it says there. */
public final class ReadmeTest {
    private static final Path README = Path.of("README.md");
    private static String readme = "";
    private static int wrong = 0;
    private static int answers = 0;

    public static void main(String[] args) throws IOException {
        readme = Files.readString(README);
        PackageRows packages = new PackageRows();
        reading(packages);
        asking(packages);
        comparing(packages);
        printing(packages);
        told("at most 512 calls after it has been made");
        told(".ci/run");
        due("answers shown", answersShown(), answers);
        System.out.println(wrong == 0 ? "all answers are as due" : wrong + " answers are not as due");
        if (wrong != 0) {
            System.exit(1);
        }
    }

    private static void reading(PackageRows packages) {
        type(packages, "package lib 1.2.3; need run Core_a >=1.0.0 <2.0.0; keeper bob, ann; feature f: lib;");
        shown("read()", packages.read(), 0);
        type(packages, "package lib 1.2.3; need ran core *;");
        shown("read()", packages.read(), -25);
    }

    private static void asking(PackageRows packages) {
        shown("rows(0)", packages.rows(0), 4);
        shown("row(0, 0, 0)", packages.row(0, 0, 0), 0);
        shown("row(0, 0, 1)", packages.row(0, 0, 1), -1);
        shown("row(0, 0, 2)", packages.row(0, 0, 2), 6);
        shown("row(0, 0, 3)", packages.row(0, 0, 3), 6);
        shown("letter(0, 0, 0, 4)", packages.letter(0, 0, 0, 4), '_');
        shown("letter(0, 0, 1, 4)", packages.letter(0, 0, 1, 4), '-');
        shown("letter(0, 1, 2, 0)", packages.letter(0, 1, 2, 0), 'f');
        shown("low(0, 0)", packages.low(0, 0), 1000000000000L);
        shown("high(0, 0)", packages.high(0, 0), 2000000000000L);
        shown("check(0)", packages.check(0), 2);
        shown("row(0, 1, 4)", packages.row(0, 1, 4), 3);
    }

    private static void comparing(PackageRows packages) {
        type(packages, "package lib 1.3.0; feature f: lib; keeper Ann; need run core.a >=1.0.0 <2.0.0;");
        shown("read()", packages.read(), 1);
        due("same(0, 1)", packages.same(0, 1) ? 1 : 0, 0);
        isShown("packages.same(0, 1);", "false");
        shown("differ(0, 1)", packages.differ(0, 1), 1);
        shown("change(0, 0)", packages.change(0, 0), 0);
        shown("change(0, 1)", packages.change(0, 1), 3);
    }

    private static void printing(PackageRows packages) {
        int length = packages.print(1);
        StringBuilder printed = new StringBuilder();
        for (int k = 0; k < length; k++) {
            printed.append((char) packages.at(k));
        }
        told("    " + printed + "\n");
        shown("print(1)", length, 80);
        shown("at(0)", packages.at(0), 'p');
        type(packages, "Core__A");
        shown("fold()", packages.fold(), 6);
        shown("at(4)", packages.at(4), '-');
    }

    /** The text is one that README.md types. */
    private static void type(PackageRows packages, String text) {
        told("typeText(packages, \"" + text + "\");");
        for (int from = 0; from < text.length(); from += 8) {
            long signs = 0;
            for (int k = from; k < from + 8; k++) {
                signs = signs << 8 | (k < text.length() ? text.charAt(k) : 0);
            }
            packages.type(signs);
        }
    }

    private static void shown(String call, long got, long want) {
        due(call, got, want);
        isShown("packages." + call + ";", "" + want);
    }

    private static void isShown(String call, String want) {
        answers++;
        if (!Pattern.compile(Pattern.quote(call) + " +// " + want + "(?![0-9])").matcher(readme).find()) {
            wrong++;
            System.out.println("README.md doesn't show " + call + " answering " + want);
        }
    }

    /** How many calls README.md shows with an answer. */
    private static int answersShown() {
        return (int) Pattern.compile("(?m)^packages\\..*; +// ").matcher(readme).results().count();
    }

    private static void told(String words) {
        if (!readme.contains(words)) {
            wrong++;
            System.out.println("README.md doesn't tell: " + words);
        }
    }

    private static void due(String call, long got, long want) {
        if (got != want) {
            wrong++;
            System.out.println(call + ": " + got + ", due is " + want);
        }
    }
}
