/** What the tests share: one object at a time, and answers held against those that are due. */
public abstract class Checks {
    protected static final long END = 1000000000000000000L;
    /** Of 16 signs. */
    protected static final String HEAD = "package a 1.0.0;";
    protected static Calls x = new Calls();
    private static int wrong = 0;
    private static String about = "";

    /** Ends the program with exit code 1 if an answer was wrong. */
    protected static void finish() {
        System.out.println(wrong == 0 ? "all answers are as due" : wrong + " answers are not as due");
        if (wrong != 0) {
            System.exit(1);
        }
    }

    protected static void begin(String name) {
        about = name;
        afresh();
    }

    /** A new object, about the same. */
    protected static void afresh() {
        x = new Calls();
    }

    protected static void due(String call, long got, long want) {
        if (got != want) {
            wrong++;
            System.out.println(about + ": " + shown(call) + " answered " + got + ", due is " + want);
        }
    }

    private static String shown(String text) {
        String line = text.replace("\n", "\\n");
        return line.length() <= 300 ? line : line.substring(0, 150) + " .. " + line.substring(line.length() - 150);
    }

    protected static int dueRead(String text, int want) {
        x.typeText(text);
        int got = x.read();
        due("read of '" + text + "'", got, want);
        return got;
    }

    /** Rows of a package whose head has 16 signs; a place is told as if the rows' text began at 0. */
    protected static void dueRow(String rows, int want) {
        dueRead(HEAD + rows, want < 0 ? want - HEAD.length() : want);
    }

    /** Read by a new object. */
    protected static void dueRowAlone(String rows, int want) {
        afresh();
        dueRow(rows, want);
    }

    /** A new object reads it as its first package. */
    protected static void stands(String text) {
        afresh();
        dueRead(text, 0);
    }

    /** @ marks the place that a new object tells; no package comes of it. */
    protected static void cantStand(String marked) {
        int place = marked.indexOf('@');
        afresh();
        dueRead(marked.substring(0, place) + marked.substring(place + 1), -1 - place);
        due("rows(0) after it", x.rows(0), -1);
    }

    protected static void rowsStand(String rows) {
        stands(HEAD + rows);
    }

    protected static void rowsCantStand(String marked) {
        cantStand(HEAD + marked);
    }

    protected static void dueRowWhats(int i, int... wants) {
        for (int what = 0; what < wants.length; what++) {
            due("row(0, " + i + ", " + what + ")", x.row(0, i, what), wants[what]);
        }
    }

    protected static String letters(int p, int i, int what) {
        StringBuilder letters = new StringBuilder();
        for (int k = 0; k < 100 && x.letter(p, i, what, k) != -1; k++) {
            letters.append((char) x.letter(p, i, what, k));
        }
        return letters.toString();
    }

    protected static void dueText(String call, String got, String want) {
        if (!got.equals(want)) {
            wrong++;
            System.out.println(about + ": " + call + " answered '" + shown(got) + "', due is '" + shown(want) + "'");
        }
    }

    protected static void dueNames(int p, String... names) {
        due("rows(" + p + ")", x.rows(p), names.length);
        for (int i = 0; i < names.length; i++) {
            dueText("name of row " + i, letters(p, i, 0), names[i]);
        }
    }

    protected static void dueLetters(int i, String... wants) {
        for (int what = 0; what < wants.length; what++) {
            dueText("letter(0, " + i + ", " + what + ", ..)", letters(0, i, what), wants[what]);
            due("letter(0, " + i + ", " + what + ", -1)", x.letter(0, i, what, -1), -1);
        }
    }

    protected static void dueVersions(int p, int i, long low, long high) {
        due("low(" + p + ", " + i + ")", x.low(p, i), low);
        due("high(" + p + ", " + i + ")", x.high(p, i), high);
    }

    protected static void dueWhys(String rows, int... whys) {
        afresh();
        dueRead("package A_a 1.0.0;" + rows, 0);
        due("rows of " + rows, x.rows(0), whys.length);
        int first = 0;
        for (int i = 0; i < whys.length; i++) {
            due("why of row " + i + " of " + rows, x.row(0, i, 4), whys[i]);
            if (first == 0 && whys[i] != 0) {
                first = i + 1;
            }
        }
        due("check of " + rows, x.check(0), first);
    }

    /** Of two packages, each the first one once. */
    protected static void dueSame(String text, String another, boolean want) {
        afresh();
        dueRead(text, 0);
        dueRead(another, 1);
        due("same(0, 1) of '" + text + "' and '" + another + "'", x.same(0, 1) ? 1 : 0, want ? 1 : 0);
        due("same(1, 0) of '" + text + "' and '" + another + "'", x.same(1, 0) ? 1 : 0, want ? 1 : 0);
    }

    protected static void dueChanges(int... sidesAndRows) {
        int count = sidesAndRows.length / 2;
        for (int k = 0; k < count; k++) {
            due("change(" + k + ", 0)", x.change(k, 0), sidesAndRows[2 * k]);
            due("change(" + k + ", 1)", x.change(k, 1), sidesAndRows[2 * k + 1]);
        }
        due("change behind the last", x.change(count, 0), -1);
        due("change before the first", x.change(-1, 1), -1);
    }

    protected static void duePrinted(String want) {
        StringBuilder got = new StringBuilder();
        for (int k = 0; k < 10000 && x.at(k) != -1; k++) {
            got.append((char) x.at(k));
        }
        dueText("what was printed", got.toString(), want);
    }

    protected static void duePrint(String text, String want) {
        afresh();
        dueRead(text, 0);
        due("print of '" + text + "'", x.print(0), want.length());
        duePrinted(want);
        dueRead(want, 1);
        due("same when read again", x.same(0, 1) ? 1 : 0, 1);
    }

    protected static void dueRange(String range, String want) {
        duePrint("package a 1.0.0; need run b " + range + ";", "package a 1.0.0; need run b " + want + ";");
    }

    protected static void dueFold(String text, String want) {
        x.typeText(text);
        due("fold of '" + text + "'", x.fold(), want.length());
        duePrinted(want);
    }

    protected static void dueNoFold(String text, int want, String before) {
        x.typeText(text);
        due("fold of '" + text + "'", x.fold(), want);
        duePrinted(before);
    }
}
