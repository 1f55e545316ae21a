import java.util.ArrayList;
import java.util.Collections;
import java.util.Comparator;
import java.util.HashMap;
import java.util.LinkedHashMap;
import java.util.List;
import java.util.Locale;
import java.util.Map;
import java.util.Random;
import java.util.regex.Matcher;
import java.util.regex.Pattern;

/**
 * Random texts, whole and spoilt, given to the class and to a second reading of the document that is
 * written otherwise (token by token, with the Java library); all answers are compared.
 */
public final class ModelTest {
    private static final long END = 1_000_000_000_000_000_000L;
    private static final List<String> NEEDS = List.of("run", "build", "test", "optional", "peer");
    private static final List<String> WORDS = List.of("need", "need", "need", "need", "need", "conflict", "replace",
            "provide", "any", "feature", "default", "platform", "licence", "keeper", "script", "file");
    /** Calls that change something; the rest of an object's 512 are left to ask. */
    private static final int MOST_CHANGES = 400;
    private static int wrong = 0;

    private final Random random;
    private final Calls x = new Calls();
    private final List<Model> models = new ArrayList<>();
    private final List<int[]> told = new ArrayList<>();
    private String printed = "";
    private String text = "";
    private int changes = 0;

    private ModelTest(Random random) {
        this.random = random;
    }

    public static void main(String[] args) {
        Random random = new Random(20261115);
        for (int run = 0; run < 1500 && wrong < 20; run++) {
            new ModelTest(random).run(run % 10 == 0);
        }
        System.out.println(wrong == 0 ? "all answers are as due" : wrong + " answers are not as due");
        if (wrong != 0) {
            System.exit(1);
        }
    }

    /** Short texts, so that there can be 40 packages and more, or texts of all lengths. */
    private void run(boolean shortTexts) {
        boolean room = true;
        while (room) {
            switch (random.nextInt(shortTexts ? 20 : 5)) {
                case 0 -> foldOne();
                case 1 -> printOne();
                case 2 -> differTwo();
                default -> room = readOne(shortTexts ? shortText() : nextText(random, text, models));
            }
            room &= changes < MOST_CHANGES;
            dueStays();
        }
    }

    private void type(String signs) {
        changes += Calls.callsToType(signs);
        x.typeText(signs);
    }

    private boolean readOne(String next) {
        text = next;
        if (changes + Calls.callsToType(text) > MOST_CHANGES) {
            return false;
        }
        type(text);
        changes += 2;
        long want = Model.read(text, models);
        due("read " + text, x.read(), want);
        due("used up", x.read(), -1);
        if (want >= 0) {
            compareModel((int) want, models.get((int) want));
        }
        due("packages", x.rows(models.size()), -1);
        return true;
    }

    private void foldOne() {
        String name = nextName(random);
        type(name);
        changes++;
        int folded = x.fold();
        if (Model.isName(name)) {
            printed = Model.folded(name);
        }
        due("fold " + name, folded, Model.isName(name) ? printed.length() : -1);
    }

    private int anyPackage() {
        return random.nextInt(models.size() + 2) - 1;
    }

    private boolean isThere(int p) {
        return p >= 0 && p < models.size();
    }

    private void printOne() {
        int p = anyPackage();
        changes++;
        if (isThere(p)) {
            printed = models.get(p).printed();
        }
        due("print " + p, x.print(p), isThere(p) ? printed.length() : -1);
        if (isThere(p)) {
            dueSameAgain(models.get(p).text, printed);
        }
    }

    private static void dueSameAgain(String text, String printed) {
        if (printed.length() > 2000) {
            return;
        }
        Calls again = new Calls();
        again.typeText(text);
        due("read once more " + text, again.read(), 0);
        again.typeText(printed);
        due("read again " + printed, again.read(), 1);
        due("same " + printed, again.same(0, 1) ? 1 : 0, 1);
    }

    private void differTwo() {
        int a = anyPackage();
        int b = anyPackage();
        changes++;
        if (!isThere(a) || !isThere(b)) {
            due("differ of none", x.differ(a, b), -1);
            due("same of none", x.same(a, b) ? 1 : 0, 0);
            return;
        }
        Model first = models.get(a);
        Model second = models.get(b);
        told.clear();
        first.alone(second).forEach(i -> told.add(new int[] {0, i}));
        second.alone(first).forEach(i -> told.add(new int[] {1, i}));
        String call = first.text + " <> " + second.text + " ";
        due(call + "same", x.same(a, b) ? 1 : 0, first.same(second) ? 1 : 0);
        due(call + "differ", x.differ(a, b), told.size());
    }

    /** What was printed and told last, whatever came after it. */
    private void dueStays() {
        for (int k = -1; k <= printed.length(); k++) {
            due("at " + k, x.at(k), k < 0 || k >= printed.length() ? -1 : printed.charAt(k));
        }
        for (int k = -1; k <= told.size(); k++) {
            for (int what = -1; what < 3; what++) {
                boolean none = k < 0 || k >= told.size() || what < 0 || what > 1;
                due("change " + k + " " + what, x.change(k, what), none ? -1 : told.get(k)[what]);
            }
        }
    }

    private void compareModel(int p, Model m) {
        due(m.text + " rows", x.rows(p), m.rows.size());
        due(m.text + " check", x.check(p), m.firstBroken());
        for (int i = -1; i <= m.rows.size(); i++) {
            ModelRow r = i < 0 || i >= m.rows.size() ? null : m.rows.get(i);
            String call = m.text + " row " + i + " ";
            due(call + "kind", x.row(p, i, 0), r == null ? -1 : r.kind);
            due(call + "set", x.row(p, i, 1), r == null ? -1 : r.set);
            due(call + "length", x.row(p, i, 2), r == null ? -1 : r.name.length());
            due(call + "folded length", x.row(p, i, 3), r == null ? -1 : Model.folded(r.name).length());
            due(call + "why", x.row(p, i, 4), r == null ? -1 : m.why(r));
            due(call + "low", x.low(p, i), r == null ? -1 : r.low);
            due(call + "high", x.high(p, i), r == null ? -1 : r.high);
            compareNames(call, p, i, r);
        }
    }

    private void compareNames(String call, int p, int i, ModelRow r) {
        String[] names = {"", "", ""};
        if (r != null) {
            names = new String[] {r.name, Model.folded(r.name), r.other == null ? "" : r.other};
        }
        for (int what = -1; what < 4; what++) {
            String name = what < 0 || what > 2 ? "" : names[what];
            for (int k = -1; k <= name.length(); k++) {
                int want = k < 0 || k >= name.length() ? -1 : name.charAt(k);
                due(call + "letter " + what + " " + k, x.letter(p, i, what, k), want);
            }
        }
    }

    private static void due(String call, long got, long want) {
        if (got != want && wrong < 20) {
            wrong++;
            System.out.println(call.replace("\n", "\\n") + ": answered " + got + ", due is " + want);
        }
    }

    // The texts.

    private static String nextText(Random random, String before, List<Model> models) {
        int way = random.nextInt(10);
        if (way == 0) {
            return spoilt(random, before);
        }
        if (way == 1 && !models.isEmpty()) {
            return spoilt(random, models.get(random.nextInt(models.size())).printed());
        }
        if (way == 2 && !models.isEmpty()) {
            return models.get(random.nextInt(models.size())).printed() + nextRow(random);
        }
        StringBuilder text = new StringBuilder(blank(random) + "package " + nextName(random) + " ");
        text.append(nextVersion(random)).append(blank(random)).append(";");
        int rows = random.nextInt(40) == 0 ? random.nextInt(150) : random.nextInt(12);
        for (int n = 0; n < rows; n++) {
            text.append(blank(random)).append(nextRow(random));
        }
        if (random.nextInt(3) != 0) {
            text.append("feature a:;feature b:;feature A.b:;feature ab:;feature c:;");
        }
        return random.nextInt(4) == 0 ? spoilt(random, text.toString()) : text.toString();
    }

    private String shortText() {
        String head = "package " + nextName(random) + " " + nextVersion(random) + ";";
        return random.nextInt(3) == 0 ? head : head + nextRow(random);
    }

    private static String spoilt(Random random, String text) {
        String signs = " \n;:,|*=<>.-_aAz09\t\u00e9";
        int at = random.nextInt(text.length() + 1);
        String sign = "" + signs.charAt(random.nextInt(signs.length()));
        switch (random.nextInt(4)) {
            case 0:
                return text.substring(0, at);
            case 1:
                return text.substring(0, at) + sign + text.substring(at);
            case 2:
                return text.substring(0, at) + (at < text.length() ? text.substring(at + 1) : "");
            default:
                return text.substring(0, at) + sign + (at < text.length() ? text.substring(at + 1) : "");
        }
    }

    private static String nextRow(Random random) {
        int kind = random.nextInt(16);
        String row = WORDS.get(kind) + (kind < 5 ? " " + NEEDS.get(kind) : "") + " ";
        if (kind < 7) {
            row += nextName(random) + blank(random) + nextRange(random);
        } else if (kind == 7) {
            row += nextName(random) + " " + nextVersion(random);
        } else if (kind == 14) {
            row += nextName(random) + "\n" + nextName(random);
        } else if (kind == 15) {
            row += nextName(random) + " " + nextNumber(random);
        } else {
            if (kind == 9) {
                row += nextName(random) + blank(random) + ":";
            }
            int most = random.nextInt(60) == 0 ? 260 : 4;
            int count = kind == 9 ? random.nextInt(most) : 1 + random.nextInt(most);
            for (int n = 0; n < count; n++) {
                row += n > 0 ? blank(random) + (kind == 8 ? "|" : ",") + blank(random) : "";
                row += nextName(random) + (kind == 8 ? blank(random) + nextRange(random) : "");
            }
        }
        return row + blank(random) + ";";
    }

    private static String nextName(Random random) {
        String[] names = {"a", "b", "A", "B", "a.b", "A_b", "a-.B", "ab", "aB", "c", "abcdefghijklmnopqrst"};
        if (random.nextInt(60) == 0) {
            return random.nextBoolean() ? "a-" : "abcdefghijklmnopqrstu";
        }
        return names[random.nextInt(names.length)];
    }

    private static String nextNumber(Random random) {
        String[] numbers = {"0", "1", "2", "9", "10", "999999"};
        if (random.nextInt(300) == 0) {
            return random.nextBoolean() ? "01" : "1000000";
        }
        return numbers[random.nextInt(numbers.length)];
    }

    private static String nextVersion(Random random) {
        if (random.nextInt(4) != 0) {
            return random.nextInt(3) + ".0." + random.nextInt(2);
        }
        return nextNumber(random) + "." + nextNumber(random) + "." + nextNumber(random);
    }

    private static String nextRange(Random random) {
        String[] bounds = {"=", ">=", "<=", ">", "<"};
        String range = "";
        int count = random.nextInt(3);
        for (int n = 0; n < count; n++) {
            range += blank(random) + bounds[random.nextInt(5)] + blank(random) + nextVersion(random);
        }
        return count == 0 ? "*" : range;
    }

    private static String blank(Random random) {
        int way = random.nextInt(4);
        return way == 0 ? " " : way == 1 ? "\n " : "";
    }

    // The second reading of the document.

    private static final class Refused extends RuntimeException {
        private static final long serialVersionUID = 1L;
        final int place;

        Refused(int place) {
            this.place = place;
        }
    }

    private static final class ModelRow {
        int kind;
        int set = -1;
        String name;
        String other;
        long low = -1;
        long high = -1;
        boolean differently;

        /** All by which rows are alike. */
        String key() {
            return kind + " " + set + " " + Model.folded(name) + " " + (other == null ? "" : Model.folded(other))
                    + " " + low + " " + high;
        }
    }

    private static final class Model {
        private static final Pattern TOKEN = Pattern.compile("[A-Za-z][-A-Za-z0-9_.]*|[0-9]+|>=|<=|[^ \\n]");
        final String text;
        String name;
        String version;
        List<ModelRow> rows = new ArrayList<>();
        /** FOLDED to as written first. */
        final Map<String, String> features = new LinkedHashMap<>();
        private final List<String> tokens = new ArrayList<>();
        private final List<Integer> places = new ArrayList<>();
        private final List<int[]> defaults = new ArrayList<>();
        private int next = 0;

        Model(String text) {
            this.text = text;
            Matcher matcher = TOKEN.matcher(text);
            while (matcher.find()) {
                tokens.add(matcher.group());
                places.add(matcher.start());
            }
            tokens.add("");
            places.add(text.length());
        }

        static long read(String whole, List<Model> models) {
            Model model = new Model(whole.length() > 2000 ? whole.substring(0, 2000) : whole);
            try {
                model.parse();
            } catch (Refused refused) {
                return -1 - refused.place;
            }
            if (models.size() == 40) {
                return -10000;
            }
            model.normalise();
            models.add(model);
            return models.size() - 1;
        }

        static boolean isName(String word) {
            return word.matches("[A-Za-z]([-A-Za-z0-9_.]{0,18}[A-Za-z0-9])?");
        }

        static String folded(String name) {
            return name.toLowerCase(Locale.ROOT).replaceAll("[-_.]+", "-");
        }

        private String take(String pattern) {
            if (!tokens.get(next).matches(pattern)) {
                throw new Refused(places.get(next));
            }
            return tokens.get(next++);
        }

        private boolean follows(String sign) {
            return tokens.get(next).equals(sign);
        }

        private String takeName() {
            if (!isName(tokens.get(next))) {
                throw new Refused(places.get(next));
            }
            return tokens.get(next++);
        }

        private String takeVersion() {
            String taken = "";
            for (int part = 0; part < 5; part++) {
                boolean apart = part > 0 && places.get(next) != places.get(next - 1) + tokens.get(next - 1).length();
                if (apart) {
                    throw new Refused(places.get(next));
                }
                taken += take(part % 2 == 0 ? "0|[1-9][0-9]{0,5}" : "[.]");
            }
            return taken;
        }

        private static long number(String version) {
            long number = 0;
            for (String part : version.split("[.]")) {
                number = number * 1000000 + Long.parseLong(part);
            }
            return number;
        }

        private void takeRange(ModelRow row) {
            row.low = 0;
            row.high = END;
            if (follows("*")) {
                next++;
                return;
            }
            for (int n = 0; n == 0 || n == 1 && tokens.get(next).matches("[<>]?=|[<>]"); n++) {
                String bound = take("[<>]?=|[<>]");
                long v = number(takeVersion());
                Map<String, long[]> kept = Map.of("=", new long[] {v, v + 1}, ">=", new long[] {v, END},
                        "<=", new long[] {0, v + 1}, ">", new long[] {v + 1, END}, "<", new long[] {0, v});
                meet(row, kept.get(bound)[0], kept.get(bound)[1]);
            }
        }

        private static void meet(ModelRow row, long low, long high) {
            boolean empty = row.low >= row.high || low >= high || row.low >= high || low >= row.high;
            row.low = empty ? 0 : Math.max(row.low, low);
            row.high = empty ? 0 : Math.min(row.high, high);
        }

        private void add(ModelRow row, int begins) {
            rows.add(row);
            if (rows.size() > 200) {
                throw new Refused(begins);
            }
        }

        private void parse() {
            take("package");
            name = takeName();
            version = takeVersion();
            take(";");
            int sets = 0;
            while (next < tokens.size() - 1) {
                int begins = places.get(next);
                int kind = WORDS.lastIndexOf(take("need|" + String.join("|", WORDS.subList(5, 16))));
                if (kind == 4) {
                    kind = NEEDS.indexOf(take(String.join("|", NEEDS)));
                }
                String feature = null;
                if (kind == 9) {
                    feature = takeName();
                    features.putIfAbsent(folded(feature), feature);
                    take(":");
                }
                if (!(kind == 9 && follows(";"))) {
                    int items = parseItems(kind, feature, sets, begins);
                    if (kind == 8 && items < 2) {
                        throw new Refused(places.get(next));
                    }
                }
                sets += kind == 8 ? 1 : 0;
                take(";");
            }
            for (int[] rowAndPlace : defaults) {
                if (!features.containsKey(folded(rows.get(rowAndPlace[0]).name))) {
                    throw new Refused(rowAndPlace[1]);
                }
            }
        }

        private int parseItems(int kind, String feature, int sets, int begins) {
            String between = kind == 8 ? "|" : kind >= 9 && kind <= 13 ? "," : "no sign";
            int items = 0;
            do {
                next += items > 0 ? 1 : 0;
                ModelRow row = new ModelRow();
                row.kind = kind;
                int place = places.get(next);
                row.name = takeName();
                row.other = feature;
                if (kind <= 6 || kind == 8) {
                    takeRange(row);
                }
                if (kind == 8) {
                    row.set = sets;
                }
                if (kind == 7) {
                    row.low = number(takeVersion());
                    row.high = row.low + 1;
                }
                if (kind == 10) {
                    defaults.add(new int[] {rows.size(), place});
                }
                if (kind == 14) {
                    row.other = takeName();
                }
                if (kind == 15) {
                    row.low = Long.parseLong(take("0|[1-9][0-9]{0,5}"));
                }
                add(row, begins);
                items++;
            } while (follows(between));
            return items;
        }

        private void normalise() {
            List<ModelRow> joined = new ArrayList<>();
            Map<String, ModelRow> firsts = new HashMap<>();
            for (ModelRow row : rows) {
                boolean joins = row.kind <= 6 || row.kind >= 10 && row.kind <= 13;
                ModelRow first = joins ? firsts.putIfAbsent(row.kind + folded(row.name), row) : null;
                if (first == null) {
                    joined.add(row);
                    continue;
                }
                first.differently |= !first.name.equals(row.name);
                if (row.kind <= 6) {
                    meet(first, row.low, row.high);
                }
            }
            Comparator<ModelRow> order = Comparator.comparingInt((ModelRow row) -> row.kind)
                    .thenComparingInt(row -> row.set)
                    .thenComparing(row -> row.kind == 9 ? folded(row.other) : "")
                    .thenComparing(row -> folded(row.name));
            Collections.sort(joined, order);
            rows = joined;
        }

        int why(ModelRow row) {
            boolean needs = row.kind <= 4 || row.kind == 8;
            if (needs && folded(row.name).equals(folded(name))) {
                return 1;
            }
            if ((row.kind <= 6 || row.kind == 8) && row.high == 0) {
                return 2;
            }
            boolean optional = rows.stream().anyMatch(o -> o.kind == 3 && folded(o.name).equals(folded(row.name)));
            if (row.kind == 9 && !optional && !features.containsKey(folded(row.name))) {
                return 3;
            }
            return row.differently ? 4 : 0;
        }

        int firstBroken() {
            for (int i = 0; i < rows.size(); i++) {
                if (why(rows.get(i)) != 0) {
                    return i + 1;
                }
            }
            return 0;
        }

        boolean same(Model other) {
            return folded(name).equals(folded(other.name)) && version.equals(other.version)
                    && features.keySet().equals(other.features.keySet())
                    && alone(other).isEmpty() && other.alone(this).isEmpty();
        }

        List<Integer> alone(Model other) {
            Map<String, Integer> left = new HashMap<>();
            for (ModelRow row : other.rows) {
                left.merge(row.key(), 1, Integer::sum);
            }
            List<Integer> alone = new ArrayList<>();
            for (int i = 0; i < rows.size(); i++) {
                if (left.merge(rows.get(i).key(), -1, Integer::sum) < 0) {
                    alone.add(i);
                }
            }
            return alone;
        }

        private static String printedVersion(long v) {
            return v / 1000000000000L + "." + v / 1000000 % 1000000 + "." + v % 1000000;
        }

        private static String printedRange(ModelRow row) {
            if (row.low == 0 && row.high == END) {
                return "*";
            }
            if (row.high == row.low + 1) {
                return "= " + printedVersion(row.low);
            }
            List<String> bounds = new ArrayList<>();
            if (row.low != 0) {
                bounds.add(">= " + printedVersion(row.low));
            }
            if (row.high != END) {
                bounds.add("< " + printedVersion(row.high));
            }
            return String.join(" ", bounds);
        }

        String printed() {
            Map<String, String> printedRows = new LinkedHashMap<>();
            List<String> named = new ArrayList<>();
            for (int i = 0; i < rows.size(); i++) {
                ModelRow row = rows.get(i);
                String group = "row " + i;
                String begins = WORDS.get(row.kind) + " ";
                String item = row.name;
                if (row.kind <= 6) {
                    begins += row.kind < 5 ? NEEDS.get(row.kind) + " " : "";
                    item += " " + printedRange(row);
                } else if (row.kind == 7) {
                    item += " " + printedVersion(row.low);
                } else if (row.kind == 8) {
                    group = "set " + row.set;
                    item += " " + printedRange(row);
                } else if (row.kind == 9) {
                    group = "feature " + folded(row.other);
                    begins += row.other + ": ";
                    named.add(folded(row.other));
                } else if (row.kind <= 13) {
                    group = "kind " + row.kind;
                } else {
                    item += " " + (row.kind == 14 ? row.other : "" + row.low);
                }
                String between = row.kind == 8 ? " | " : ", ";
                printedRows.merge(group, begins + item, (before, more) -> before + between + row.name
                        + (row.kind == 8 ? " " + printedRange(row) : ""));
            }
            StringBuilder whole = new StringBuilder("package " + name + " " + version + ";");
            printedRows.values().forEach(row -> whole.append(" ").append(row).append(";"));
            features.forEach((key, written) ->
                    whole.append(named.contains(key) ? "" : " feature " + written + ":;"));
            return whole.toString();
        }
    }
}
