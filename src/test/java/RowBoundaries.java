/**
 * The section "Terms" from PACKAGE to PRINTED: each sentence that names a boundary case, in the document's
 * words. In a text, @ marks the place that can't stand.
 */
public final class RowBoundaries extends Checks {
    private static final String TWENTY = "abcdefghijklmnopqrst";

    public static void main(String[] args) {
        eachEndedBySemicolon();
        noRows();
        needsToReplace();
        provided();
        kindsOfLists();
        setsFromZero();
        atLeastTwo();
        featureWithoutNames();
        perhapsNames();
        namesWithCommas();
        scriptsAndFiles();
        defaultsWithoutFeature();
        defaultsComeLast();
        twoHundredRows();
        oneRowTooMany();
        countedWhenRead();
        countedAheadOfJoining();
        featuresAreNoRows();
        mostFeatures();
        sortedByKind();
        sortedByName();
        asTheyCame();
        joining();
        joinedRanges();
        othersStay();
        ownName();
        rangeWithoutVersion();
        namesNothing();
        writtenDifferently();
        leastWhy();
        printedHead();
        printedRanges();
        carried();
        printedTogether();
        printedFeatures();
        readAgain();
        longestPrinted();
        finish();
    }

    private static void eachEndedBySemicolon() {
        begin("A PACKAGE: package NAME VERSION ; then ROWS, each ended by ;");
        cantStand("package a 1.0.0@");
        cantStand("package a 1.0.0@,");
        cantStand("package a 1.0.0;@;");
        cantStand("package a 1.0.0; @;");
        rowsCantStand("keeper k@");
        rowsCantStand("keeper k;@;");
        rowsCantStand("keeper k @keeper l;");
        rowsCantStand("keeper k@: keeper l;");
        rowsCantStand("need run b * @need run c *;");
        rowsCantStand("provide p 1.0.0 @provide q 1.0.0;");
        rowsCantStand("feature f: @:;");
        rowsCantStand("file f 1 @file g 1;");
        for (String word : new String[] {"need", "need run", "need build", "need test", "need optional", "need peer",
            "conflict", "replace", "provide", "any", "feature", "default", "platform", "licence", "keeper", "script",
            "file"}) {
            rowsCantStand(word + "@;");
            rowsCantStand(word + " @;");
            rowsCantStand(word + "\n@");
        }
        rowsCantStand("script s t @script u v;");
        rowsCantStand("any b *|c * @any d *|e *;");
        cantStand("package a 1.0.0; @package b 1.0.0;");
        cantStand("@keeper k; package a 1.0.0;");
    }

    private static void noRows() {
        begin("then ROWS: there may be none");
        stands(HEAD);
        due("rows", x.rows(0), 0);
        due("check", x.check(0), 0);
        stands("package a 0.0.0;");
        stands("package " + TWENTY + " 999999.999999.999999;");
    }

    private static void needsToReplace() {
        begin("0 to 4 need: run, build, test, optional or peer, a NAME, a RANGE. 5 conflict, 6 replace: NAME, RANGE");
        String[] words = {"need run", "need build", "need test", "need optional", "need peer", "conflict", "replace"};
        for (int kind = 0; kind < words.length; kind++) {
            rowsStand(words[kind] + " B_b >=1.0.0 <2.0.0;");
            due("rows", x.rows(0), 1);
            dueRowWhats(0, kind, -1, 3, 3, 0);
            dueLetters(0, "B_b", "b-b", "");
            dueVersions(0, 0, 1000000000000L, 2000000000000L);
            rowsCantStand(words[kind] + " b@;");
            rowsCantStand(words[kind] + " @*;");
            rowsCantStand(words[kind] + " b @c *;");
            rowsCantStand(words[kind] + " b @1.0.0;");
            rowsCantStand(words[kind] + " b *@, c *;");
            rowsCantStand(words[kind] + " b *@|c *;");
            rowsCantStand(words[kind] + " b@: c;");
        }
        for (String word : new String[] {"run", "build", "test", "optional", "peer"}) {
            rowsCantStand("@" + word + " b *;");
            rowsCantStand("need @b *; need " + word + " b *;");
            rowsCantStand("need " + word + " " + word + " @run *;");
            rowsCantStand("conflict " + word + " @b *;");
        }
        rowsCantStand("need @conflict b *;");
        rowsCantStand("need @need run b *;");
    }

    private static void provided() {
        begin("7 provide: NAME, VERSION");
        rowsStand("provide B_b 1.2.3;");
        due("rows", x.rows(0), 1);
        dueRowWhats(0, 7, -1, 3, 3, 0);
        dueLetters(0, "B_b", "b-b", "");
        dueVersions(0, 0, 1000002000003L, 1000002000004L);
        rowsCantStand("provide b@;");
        rowsCantStand("provide @1.0.0;");
        rowsCantStand("provide b @*;");
        rowsCantStand("provide b @=1.0.0;");
        rowsCantStand("provide b 7@;");
        rowsCantStand("provide b 1.0.0 @2.0.0;");
        rowsCantStand("provide b 1.0.0 @<2.0.0;");
        rowsCantStand("provide b 1.0.0@, c 1.0.0;");
        rowsCantStand("provide b 1.0.0@|c 1.0.0;");
    }

    private static void kindsOfLists() {
        begin("8 any, 9 feature, 10 default, 11 platform, 12 licence, 13 keeper, 14 script, 15 file");
        String[] rows = {"any N_n *|o *;", "feature f: N_n;", "feature n-n:; default N_n;", "platform N_n;",
            "licence N_n;", "keeper N_n;", "script N_n t;", "file N_n 1;"};
        for (int n = 0; n < rows.length; n++) {
            rowsStand(rows[n]);
            due("rows of " + rows[n], x.rows(0), n == 0 ? 2 : 1);
            dueRowWhats(0, 8 + n, n == 0 ? 0 : -1, 3, 3, n == 1 ? 3 : 0);
            dueLetters(0, "N_n", "n-n", n == 1 ? "f" : n == 6 ? "t" : "");
        }
    }

    private static void setsFromZero() {
        begin("8 any: .. SETS of them are numbered from 0 in the text's order");
        rowsStand("any z *|y *; keeper k; any b *|a *|c *; need run n *; any m *|m *;");
        int[] sets = {0, 0, 1, 1, 1, 2, 2};
        dueNames(0, "n", "y", "z", "a", "b", "c", "m", "m", "k");
        due("SET of a need", x.row(0, 0, 1), -1);
        for (int i = 0; i < sets.length; i++) {
            due("KIND of row " + (i + 1), x.row(0, i + 1, 0), 8);
            due("SET of row " + (i + 1), x.row(0, i + 1, 1), sets[i]);
        }
        due("SET of a keeper", x.row(0, 8, 1), -1);
        dueRead(HEAD + "any b *|c *; x", -30);
        dueRead(HEAD + "any b *|c *;", 1);
        due("SET in the next package", x.row(1, 0, 1), 0);
        rowsStand("any b*|c*;".repeat(100));
        due("SET of the last", x.row(0, 199, 1), 99);
        due("SET of the one before", x.row(0, 197, 1), 98);
    }

    private static void atLeastTwo() {
        begin("8 any: NAME RANGE, with | between, at least two");
        rowsCantStand("any @;");
        rowsCantStand("any b *@;");
        rowsCantStand("any b * @;");
        rowsCantStand("any b >1.0.0 <2.0.0@;");
        rowsCantStand("any b *@");
        rowsCantStand("any b * @, c *;");
        rowsCantStand("any b * @c *;");
        rowsCantStand("any b *|@;");
        rowsCantStand("any b *|@");
        rowsCantStand("any b *|@|c *;");
        rowsCantStand("any @|b *|c *;");
        rowsCantStand("any b *|c *|@;");
        rowsCantStand("any b @|c *;");
        rowsCantStand("any b *|c@;");
        rowsCantStand("keeper k; any b*@;");
        rowsStand("any b *|c *;");
        rowsStand("any b *|b *;");
        rowsStand("any b *" + "|b*".repeat(199) + ";");
        due("rows", x.rows(0), 200);
    }

    private static void featureWithoutNames() {
        begin("9 feature: .. a feature without has none but itself is there");
        rowsStand("feature f:;");
        due("rows", x.rows(0), 0);
        rowsStand("feature f :\n;");
        due("rows", x.rows(0), 0);
        rowsStand("feature f:; default f;");
        due("rows", x.rows(0), 1);
        rowsStand("feature f:; feature g: f, f;");
        due("rows", x.rows(0), 2);
        due("WHY", x.row(0, 0, 4), 0);
        rowsStand("feature f: F;");
        due("a feature names itself", x.row(0, 0, 4), 0);
    }

    private static void perhapsNames() {
        begin("9 feature: NAME : , perhaps NAMES with commas between");
        rowsCantStand("feature @;");
        rowsCantStand("feature f@;");
        rowsCantStand("feature f@, g;");
        rowsCantStand("feature f @g;");
        rowsCantStand("feature @: f;");
        rowsCantStand("feature f:@,;");
        rowsCantStand("feature f: @, g;");
        rowsCantStand("feature f: g,@;");
        rowsCantStand("feature f: g @h;");
        rowsCantStand("feature f: g,@,h;");
        rowsCantStand("feature f: g@|h;");
        rowsCantStand("feature f:@: g;");
        rowsCantStand("feature f: g@: h;");
        rowsCantStand("feature f:@");
        rowsCantStand("feature f: g@");
        rowsCantStand("feature f: g, @");
        rowsStand("feature f:g;");
        rowsStand("feature f" + ": g" + ", g".repeat(199) + ";");
        due("rows", x.rows(0), 200);
    }

    private static void namesWithCommas() {
        begin("10 default, 11 platform, 12 licence, 13 keeper: NAMES with commas");
        for (String word : new String[] {"feature k:;feature l:;feature m:;default", "platform", "licence", "keeper"}) {
            rowsStand(word + " k;");
            rowsStand(word + " k,l,m;");
            rowsStand(word + "\nk , l\n,\nm ;");
            due("rows", x.rows(0), 3);
            rowsCantStand(word + " @;");
            rowsCantStand(word + " @");
            rowsCantStand(word + "@;");
            rowsCantStand(word + " @,k;");
            rowsCantStand(word + " k,@;");
            rowsCantStand(word + " k,@,l;");
            rowsCantStand(word + " k @l;");
            rowsCantStand(word + " k@|l;");
            rowsCantStand(word + " k@:;");
            rowsCantStand(word + " k @*;");
            rowsCantStand(word + " k @1.0.0;");
        }
    }

    private static void scriptsAndFiles() {
        begin("14 script: NAME NAME. 15 file: NAME, NUMBER.");
        rowsCantStand("script @;");
        rowsCantStand("script s@;");
        rowsCantStand("script s@, t;");
        rowsCantStand("script s t@, u;");
        rowsCantStand("script s t @u;");
        rowsCantStand("script s @7;");
        rowsCantStand("file @;");
        rowsCantStand("file f@;");
        rowsCantStand("file f@, 7;");
        rowsCantStand("file f @g;");
        rowsCantStand("file f 7@, 8;");
        rowsCantStand("file @7;");
        rowsStand("script s s; file s 0;");
    }

    private static void defaultsWithoutFeature() {
        begin("A default that names no feature (FOLDED) of the text can't stand: its place");
        rowsCantStand("default @f;");
        rowsCantStand("feature f:; default f, @g;");
        rowsCantStand("feature f:; default @ff;");
        rowsCantStand("feature ff:; default @f;");
        rowsCantStand("feature f:; default f; default f,  \n@g, h;");
        rowsCantStand("feature f: g; need optional g *; default @g;");
        rowsCantStand("default @h, f, g; feature f:; default i;");
        rowsStand("default f; feature f:;");
        rowsStand("default F_f; feature f--F: b;");
        rowsStand("default f, g; feature G: f; feature f:; default g;");
        rowsCantStand("default @a;");
        dueRead(HEAD + "feature f:;", 0);
        dueRead(HEAD + "default f;", -25);
    }

    private static void defaultsComeLast() {
        begin("its place, but only if nothing else before the text's end can't");
        rowsCantStand("default f@");
        rowsCantStand("default f, @;");
        rowsCantStand("default f; @x");
        rowsCantStand("default f; keeper k@");
        rowsCantStand("default f; keeper k-l, @m-;");
        rowsCantStand("default f; any b *@;");
        rowsCantStand("default f; file q @01;");
        rowsCantStand("default f; need run b >@;");
        rowsCantStand("default f;@;");
        rowsCantStand("default f; @keeper a" + ",a".repeat(199) + ";");
        rowsCantStand("default @f; keeper a" + ",a".repeat(198) + ";");
        rowsCantStand("default @f; keeper k;  \n");
    }

    private static String keepers(int count) {
        return "keeper a" + ",a".repeat(count - 1) + ";";
    }

    /** A row of each KIND in the text; of lists and alternatives the last one. */
    private static final String[] LAST_ROWS = {"need run b*", "need build b <1.0.0", "need test b >1.0.0 <2.0.0",
        "need optional b=1.0.0", "need peer b *", "conflict b *", "replace b *", "provide b 1.0.0", "feature f: b",
        "default f", "platform b", "licence b", "keeper b", "script b c", "file b 1"};

    private static void twoHundredRows() {
        begin("More than 200 rows: 200 can stand");
        for (String row : LAST_ROWS) {
            rowsStand("feature f:;" + keepers(199) + row + ";");
            due("rows", x.rows(0), 2);
        }
        rowsStand(keepers(198) + "any b *|c *;");
        rowsStand("any b*" + "|b*".repeat(199) + ";");
        rowsStand("file a 1;".repeat(200));
        due("rows", x.rows(0), 200);
        due("the last one's KIND", x.row(0, 199, 0), 15);
        due("none behind", x.row(0, 200, 0), -1);
    }

    private static void oneRowTooMany() {
        begin("More than 200 rows: the place of the word with which the text's row begins");
        for (String row : LAST_ROWS) {
            rowsCantStand("feature f:;" + keepers(200) + " \n@" + row + ";");
        }
        rowsCantStand(keepers(200) + "@any b *|c *;");
        rowsCantStand(keepers(199) + "@any b *|c *;");
        rowsCantStand(keepers(198) + "@any b *|c *|d *;");
        rowsCantStand(keepers(199) + "keeper k; @keeper l;");
        rowsCantStand(keepers(199) + "@keeper k, l;");
        rowsCantStand(keepers(199) + "@platform k, l, m;");
        rowsCantStand(keepers(199) + "feature g: b; @feature f: b;");
        rowsCantStand(keepers(199) + "@feature f: b, c;");
        rowsCantStand("@" + keepers(201));
        rowsCantStand("@" + keepers(300));
        rowsCantStand("@any b*" + "|b*".repeat(200) + ";");
        rowsCantStand("@feature f:b" + ",b".repeat(200) + ";");
        rowsCantStand("file a 1;".repeat(200) + "@file a 1;");
        rowsCantStand("file a 1;".repeat(200) + " @file a 2; file a 3; x");
    }

    private static void countedWhenRead() {
        begin("counted .. when the NAME, RANGE, VERSION or NUMBER of one was read");
        for (String row : new String[] {"need @fly", "need run @;", "need run b@;", "need run b @x", "need run b >@;",
            "need run b <1.0.0 >@x", "conflict b <1@", "replace b@", "provide b@;", "provide b 1.0@;",
            "provide @b- 1.0.0;", "any b@;", "any @;", "feature @;", "feature f@;", "feature f: @9;", "feature f: @b-;",
            "default @;", "platform @*;", "licence @" + TWENTY + "u;", "keeper @b.", "script @;", "script b@;",
            "script b @c-;", "file b@;", "file b @x;", "file b @01;", "file b @1000000;", "@x", "@;"}) {
            rowsCantStand(keepers(200) + row);
        }
        for (String row : new String[] {"need run b *", "need run b <1.0.0 x", "need run b <1.0.0", "conflict b * x",
            "replace b *, c", "provide b 1.0.0", "provide b 1.0.0.0", "any b *", "any b *|", "feature f: b",
            "feature f: b c", "default f", "platform b", "licence b,", "keeper b,,", "script b c", "script b c d",
            "file b 1", "file b 1 x", "file b 1.0"}) {
            rowsCantStand(keepers(200) + "@" + row);
        }
    }

    private static void countedAheadOfJoining() {
        begin("counted as they come, ahead of joining");
        rowsStand(keepers(200));
        due("rows", x.rows(0), 1);
        rowsCantStand("@" + keepers(201));
        rowsStand("feature a:;" + keepers(100) + "default a" + ",a".repeat(99) + ";");
        due("rows", x.rows(0), 2);
        rowsCantStand("feature a:;" + keepers(100) + "@default a" + ",a".repeat(100) + ";");
        dueRead(HEAD + keepers(200), 0);
    }

    private static void featuresAreNoRows() {
        begin("each makes a row; a feature without has none");
        rowsStand(keepers(200) + "feature a:;".repeat(100));
        due("rows", x.rows(0), 1);
        rowsStand("feature a:;".repeat(180));
        due("rows", x.rows(0), 0);
    }

    private static void mostFeatures() {
        begin("a feature without has none but itself is there: as many as 2000 signs can tell");
        String text = HEAD;
        String want = HEAD;
        int count = 0;
        for (char second = '/'; second <= 'z'; second++) {
            for (char first = 'a'; first <= 'z'; first++) {
                // '/' stands for no second sign; between the digits and the small letters there are others
                String name = second == '/' ? "" + first : "" + first + second;
                boolean fits = text.length() + name.length() + 10 <= 2000;
                if (fits && (second <= '9' || second >= 'a')) {
                    text += "feature " + name + ":;";
                    want += " feature " + name + ":;";
                    count++;
                }
            }
        }
        due("features of the text", count, 167);
        stands(text);
        due("rows", x.rows(0), 0);
        due("print", x.print(0), want.length());
        duePrinted(want);
        String last = want.substring(want.length() - 4, want.length() - 2);
        dueSame(text, text.replace("feature " + last + ":;", "feature zz:;"), false);
        rowsStand(text.substring(HEAD.length() + 22) + "default " + last + ";");
    }

    private static void sortedByKind() {
        begin("NORMAL FORM: rows sorted by KIND");
        rowsStand("file n 1; script n t; keeper n; licence n; platform n; default f; feature f: n; any n *|n *;"
                + " provide n 1.0.0; replace n *; conflict n *; need peer n *; need optional n *; need test n *;"
                + " need build n *; need run n *;");
        int[] kinds = {0, 1, 2, 3, 4, 5, 6, 7, 8, 8, 9, 10, 11, 12, 13, 14, 15};
        due("rows", x.rows(0), kinds.length);
        for (int i = 0; i < kinds.length; i++) {
            due("KIND of row " + i, x.row(0, i, 0), kinds[i]);
        }
    }

    private static void sortedByName() {
        begin("by NAME (FOLDED, sign by sign, the one that another begins with less)");
        rowsStand("keeper z, aa, a, b, AB, a-b, A9, a_0, abc, Z9;");
        dueNames(0, "a", "a_0", "a-b", "A9", "aa", "AB", "abc", "b", "z", "Z9");
        rowsStand("feature zz: a; feature z: b, a; feature z-z: a; feature Z9: a; feature A: z;");
        String[] features = {"A", "z", "z", "z-z", "Z9", "zz"};
        for (int i = 0; i < features.length; i++) {
            dueText("feature of row " + i, letters(0, i, 2), features[i]);
        }
        dueNames(0, "z", "a", "b", "a", "a", "a");
        rowsStand("any b *|a *; any a *|B *|aa *;");
        dueNames(0, "a", "b", "a", "aa", "B");
        rowsStand("need run " + TWENTY + " *; need run abcdefghijklmnopqrs *; need run abcdefghijklmnopqrsS *;");
        dueNames(0, "abcdefghijklmnopqrs", "abcdefghijklmnopqrsS", TWENTY);
    }

    private static void asTheyCame() {
        begin("of like ones as they came");
        rowsStand("file f 3; file F 1; file f 2; provide p 2.0.0; provide P 1.0.0;"
                + " script s z; script S a; script s m;");
        dueNames(0, "p", "P", "s", "S", "s", "f", "F", "f");
        due("VERSION that came first", x.low(0, 0), 2000000000000L);
        dueText("second name that came first", letters(0, 2, 2), "z");
        dueText("second name that came last", letters(0, 4, 2), "m");
        due("NUMBER that came first", x.low(0, 5), 3);
        due("NUMBER that came last", x.low(0, 7), 2);
        rowsStand("any B =2.0.0|b =1.0.0|b *;");
        dueNames(0, "B", "b", "b");
        due("RANGE that came first", x.low(0, 0), 2000000000000L);
        due("RANGE that came last", x.low(0, 2), 0);
        rowsStand("feature f-F: B; feature F.f: b; feature f_f: a, B;");
        dueNames(0, "a", "B", "b", "B");
        dueText("feature that came first", letters(0, 1, 2), "f-F");
        dueText("feature that came next", letters(0, 2, 2), "F.f");
        dueText("feature that came last", letters(0, 3, 2), "f_f");
    }

    private static void joining() {
        begin("Of kinds 0 to 6 and 10 to 13 rows of one KIND and one FOLDED name join; the name written first stays");
        String[] words = {"need run", "need build", "need test", "need optional", "need peer", "conflict", "replace"};
        for (String word : words) {
            rowsStand(word + " B_b *;" + word + " c *; " + word + " b-b *; " + word + " B.b *;");
            dueNames(0, "B_b", "c");
        }
        for (String word : new String[] {"feature b-b:; feature c:; default", "platform", "licence", "keeper"}) {
            rowsStand(word + " B_b, c, b-b, B.b;");
            dueNames(0, "B_b", "c");
            String again = word.substring(word.lastIndexOf(' ') + 1);
            rowsStand(word + " b--b;" + again + " c, b.b;" + again + " B-B, C;");
            dueNames(0, "b--b", "c");
        }
        rowsStand("need run b *; need build b *; need test b *; need optional b *; need peer b *; conflict b *;"
                + " replace b *; feature b:; default b; platform b; licence b; keeper b;");
        due("rows of other KINDS stay", x.rows(0), 11);
        rowsStand("need run b *; need run b-b *; need run bb *; need run b0 *;");
        due("rows of other names stay", x.rows(0), 4);
    }

    private static void joinedRanges() {
        begin("join: the RANGE is what is in all");
        rowsStand("need run b *; need run b *;");
        dueVersions(0, 0, 0, END);
        rowsStand("need run b >=1.0.0; need run b *; need run b <2.0.0; need run b >=0.5.0 <3.0.0;");
        dueVersions(0, 0, 1000000000000L, 2000000000000L);
        rowsStand("conflict b <=1.0.0; conflict b >=1.0.0;");
        dueVersions(0, 0, 1000000000000L, 1000000000001L);
        rowsStand("replace b <1.0.0; replace b >=1.0.0;");
        dueVersions(0, 0, 0, 0);
        rowsStand("replace b <1.0.0; replace b >=2.0.0; replace b *; replace b <3.0.0;");
        dueVersions(0, 0, 0, 0);
        rowsStand("need peer b *; need peer b <0.0.0; need peer b =1.0.0;");
        dueVersions(0, 0, 0, 0);
        rowsStand("need test b >=999999.999999.999999; need test b <=999999.999999.999999;");
        dueVersions(0, 0, END - 1, END);
        rowsStand("need build b =0.0.0; need build b <=0.0.0;");
        dueVersions(0, 0, 0, 1);
    }

    private static void othersStay() {
        begin("Others of like names stay both");
        rowsStand("provide b 1.0.0; provide b 1.0.0; provide B 1.0.0;");
        dueNames(0, "b", "b", "B");
        rowsStand("any b *|B *|b *; any b *|b *;");
        dueNames(0, "b", "B", "b", "b", "b");
        rowsStand("feature f: b, B; feature F: b;");
        dueNames(0, "b", "B", "b");
        rowsStand("script b c; script b c; script B C;");
        dueNames(0, "b", "b", "B");
        rowsStand("file b 1; file b 1; file B 1;");
        dueNames(0, "b", "b", "B");
    }

    private static void ownName() {
        begin("WHY 1: a row 0 to 4 or 8 that needs the package's own name (FOLDED)");
        for (String need : new String[] {"run", "build", "test", "optional", "peer"}) {
            dueWhys("need " + need + " A_a *;", 1);
            dueWhys("need " + need + " a.-A =1.0.0;", 1);
            dueWhys("need " + need + " aa *; need " + need + " a-a-a *; need " + need + " a *;", 0, 0, 0);
        }
        dueWhys("any a-A *|a *;", 0, 1);
        dueWhys("any b *|a_a *;", 1, 0);
        dueWhys("conflict a-a *; replace a-a *; provide a-a 1.0.0;", 0, 0, 0);
        dueWhys("feature a-a: a-a; default a-a; platform a-a; licence a-a; keeper a-a; script a-a a-a; file a-a 1;",
                0, 0, 0, 0, 0, 0, 0);
    }

    private static void rangeWithoutVersion() {
        begin("2: its RANGE has no version (kinds 0 to 6, 8)");
        for (String row : new String[] {"need run b ", "need build b ", "need test b ", "need optional b ",
            "need peer b ", "conflict b ", "replace b ", "conflict a-a "}) {
            dueWhys(row + "<0.0.0;", 2);
            dueWhys(row + ">999999.999999.999999;", 2);
            dueWhys(row + ">1.0.0 <=1.0.0;", 2);
            dueWhys(row + "=1.0.0 =1.0.1;", 2);
            dueWhys(row + "=1.0.0 =1.0.0;", 0);
            dueWhys(row + "=0.0.0;", 0);
            dueWhys(row + ">=999999.999999.999999;", 0);
            dueWhys(row + "<1.0.0;" + row + ">=1.0.0;", 2);
            dueWhys(row + "<=1.0.0;" + row + ">=1.0.0;", 0);
        }
        dueWhys("any b <0.0.0|c *|d >1.0.0 <1.0.0;", 2, 0, 2);
        dueWhys("provide b 0.0.0; file b 0; keeper k; script s t; feature f: f;", 0, 0, 0, 0, 0);
    }

    private static void namesNothing() {
        begin("3: a row 9 that names neither a feature nor an optional need (kind 3) of the package");
        dueWhys("feature f: g;", 3);
        dueWhys("feature f: f;", 0);
        dueWhys("feature f: g; feature G:;", 0);
        dueWhys("feature f: g; feature g: h;", 0, 3);
        dueWhys("feature f: G_g; need optional g-g *;", 0, 0);
        dueWhys("feature f: g; need optional g <0.0.0;", 2, 0);
        dueWhys("feature f: g; need run g *;", 0, 3);
        dueWhys("feature f: g; need build g *;", 0, 3);
        dueWhys("feature f: g; need test g *;", 0, 3);
        dueWhys("feature f: g; need peer g *;", 0, 3);
        dueWhys("feature f: g; conflict g *; replace g *; provide g 1.0.0; any g *|g *;", 0, 0, 0, 0, 0, 3);
        dueWhys("feature f: g; keeper g; script g g; file g 1; platform g; licence g;", 3, 0, 0, 0, 0, 0);
        dueWhys("feature f: a-a;", 3);
        dueWhys("feature f: gg; feature g:; need optional ggg *;", 0, 3);
    }

    private static void writtenDifferently() {
        begin("4: rows of kinds 0 to 6 and 10 to 13 that joined, written differently");
        for (String word : new String[] {"need run", "need build", "need test", "need optional", "need peer",
            "conflict", "replace"}) {
            dueWhys(word + " b *;" + word + " B *;", 4);
            dueWhys(word + " b *;" + word + " b *;", 0);
            dueWhys(word + " b *;" + word + " b *;" + word + " B *;", 4);
            dueWhys(word + " b *;" + word + " B *;" + word + " b *;", 4);
            dueWhys(word + " b-c *;" + word + " b--c *;", 4);
            dueWhys(word + " b-c *;" + word + " b_c *;", 4);
            dueWhys(word + " b *;" + word + " c *;", 0, 0);
        }
        for (String word : new String[] {"platform", "licence", "keeper"}) {
            dueWhys(word + " b, B;", 4);
            dueWhys(word + " b, b;", 0);
            dueWhys(word + " b;" + word + " c, B;", 4, 0);
        }
        dueWhys("feature f:; default f, F;", 4);
        dueWhys("feature f:; default F, F;", 0);
        dueWhys("feature f: f; feature F: F;", 0, 0);
        dueWhys("provide b 1.0.0; provide B 1.0.0; any b *|B *; script s t; script S t; file f 1; file F 1;",
                0, 0, 0, 0, 0, 0, 0, 0);
        dueWhys("need run b *; need build B *; conflict B *; keeper B;", 0, 0, 0, 0);
    }

    private static void leastWhy() {
        begin("The least WHY counts");
        dueWhys("need run a-a <0.0.0;", 1);
        dueWhys("need run a-a *; need run A-A *;", 1);
        dueWhys("need run a-a <0.0.0; need run A-A *;", 1);
        dueWhys("need run b <0.0.0; need run B *;", 2);
        dueWhys("conflict a-a <0.0.0; conflict A-A *;", 2);
        dueWhys("any a-a <0.0.0|b <0.0.0;", 1, 2);
    }

    private static void printedHead() {
        begin("PRINTED: package NAME VERSION; and the rows in normal form, each behind a blank");
        duePrint(HEAD, HEAD);
        duePrint("package A_b.C 0.0.0;", "package A_b.C 0.0.0;");
        duePrint("package " + TWENTY + " 999999.999999.999999;", "package " + TWENTY + " 999999.999999.999999;");
        duePrint("package a 10.100.1000; file Q 999999; file p 0; file r 100000;",
                "package a 10.100.1000; file p 0; file Q 999999; file r 100000;");
        duePrint("package a 100000.99999.10000; provide P 1.20.300; script S_s T.t;",
                "package a 100000.99999.10000; provide P 1.20.300; script S_s T.t;");
    }

    private static void printedRanges() {
        begin("RANGES: * , = v if it is one version, else >= v if the least isn't 0.0.0, a blank, < v");
        dueRange("*", "*");
        dueRange(">= 0.0.0", "*");
        dueRange("<= 999999.999999.999999", "*");
        dueRange("= 0.0.0", "= 0.0.0");
        dueRange("<= 0.0.0", "= 0.0.0");
        dueRange("< 0.0.1", "= 0.0.0");
        dueRange("< 0.0.2", "< 0.0.2");
        dueRange("> 0.0.0", ">= 0.0.1");
        dueRange("> 0.0.0 < 0.0.2", "= 0.0.1");
        dueRange("> 0.0.0 < 0.0.3", ">= 0.0.1 < 0.0.3");
        dueRange(">= 1.0.0 < 1.0.2", ">= 1.0.0 < 1.0.2");
        dueRange("= 999999.999999.999999", "= 999999.999999.999999");
        dueRange("> 999999.999999.999998", "= 999999.999999.999999");
        dueRange("> 999999.999999.999997", ">= 999999.999999.999998");
        dueRange("< 999999.999999.999999", "< 999999.999999.999999");
        dueRange(">= 0.0.1 < 999999.999999.999999", ">= 0.0.1 < 999999.999999.999999");
        begin("a RANGE without a version: < 0.0.0");
        dueRange("< 0.0.0", "< 0.0.0");
        dueRange("> 999999.999999.999999", "< 0.0.0");
        dueRange("> 5.0.0 < 5.0.1", "< 0.0.0");
        dueRange("= 1.0.0 = 2.0.0", "< 0.0.0");
        duePrint(HEAD + "any b <0.0.0|c *; conflict d <1.0.0; conflict d >1.0.0; replace e <0.0.0;",
                HEAD + " conflict d < 0.0.0; replace e < 0.0.0; any b < 0.0.0 | c *;");
    }

    private static void carried() {
        begin("of versions below 1000000 in each place; a NUMBER above 999999 carries");
        dueRange("> 1.2.999999", ">= 1.3.0");
        dueRange("> 1.999999.999999", ">= 2.0.0");
        dueRange("> 0.0.999999", ">= 0.1.0");
        dueRange("> 0.999999.999999", ">= 1.0.0");
        dueRange("<= 0.0.999999", "< 0.1.0");
        dueRange("<= 1.2.999999", "< 1.3.0");
        dueRange("<= 1.999999.999999", "< 2.0.0");
        dueRange("<= 99999.999999.999999", "< 100000.0.0");
        dueRange("<= 999998.999999.999999", "< 999999.0.0");
        dueRange("<= 1.999999.999998", "< 1.999999.999999");
        dueRange("> 1.2.999999 <= 1.999999.999999", ">= 1.3.0 < 2.0.0");
        dueRange("> 1.2.999999 <= 1.3.0", "= 1.3.0");
        rowsStand("need run b >1.2.999999 <=1.999999.999999; provide b 1.2.999999; provide b 1.999999.999999;");
        dueVersions(0, 0, 1000003000000L, 2000000000000L);
        dueVersions(0, 1, 1000002999999L, 1000003000000L);
        dueVersions(0, 2, 1999999999999L, 2000000000000L);
    }

    private static void printedTogether() {
        begin("any, feature and the rows 10 to 13: all of one SET, feature or KIND together, in one row");
        duePrint(HEAD + "any b*|a*;any d*|c*;", HEAD + " any a * | b *; any c * | d *;");
        duePrint(HEAD + "any b=1.0.0|b*|B>=2.0.0<3.0.0;", HEAD + " any b = 1.0.0 | b * | B >= 2.0.0 < 3.0.0;");
        duePrint(HEAD + "feature g:f;feature f:g;feature G:b,f;", HEAD + " feature f: g; feature G: b, f, f;");
        duePrint(HEAD + "keeper b; platform z; keeper a, c; platform Y; licence l; keeper B;",
                HEAD + " platform Y, z; licence l; keeper a, b, c;");
        duePrint(HEAD + "feature f:; feature g:; default g; default F, f;",
                HEAD + " default F, g; feature f:; feature g:;");
        String apart = " need run b *; need run c *; provide p 1.0.0; provide p 1.0.0; script s t; script s t;"
                + " file f 1; file f 1;";
        duePrint(HEAD + apart, HEAD + apart);
    }

    private static void printedFeatures() {
        begin("feature (FOLDED; named as in the first of its rows)");
        duePrint(HEAD + "feature F-f: b; feature f_F: c;", HEAD + " feature F-f: b, c;");
        duePrint(HEAD + "feature F-f: c; feature f_F: b;", HEAD + " feature f_F: b, c;");
        duePrint(HEAD + "feature F-f:; feature f_F: b;", HEAD + " feature f_F: b;");
        begin("at the end features that have no NAMES in any row, as they came first: \" feature NAME:;\"");
        duePrint(HEAD + "feature f:;", HEAD + " feature f:;");
        duePrint(HEAD + "feature Z:; feature a:; feature m:;", HEAD + " feature Z:; feature a:; feature m:;");
        duePrint(HEAD + "feature F-f:; feature a:; feature f_f:; feature A:;", HEAD + " feature F-f:; feature a:;");
        duePrint(HEAD + "feature f:; feature g: f; feature F: g; feature h:;",
                HEAD + " feature F: g; feature g: f; feature h:;");
        duePrint(HEAD + "feature f: f; feature f:;", HEAD + " feature f: f;");
        duePrint(HEAD + "feature b:; file f 1; feature a:; script s t;",
                HEAD + " script s t; file f 1; feature b:; feature a:;");
    }

    /** So many different names, each of the given length, as they are sorted. */
    private static String names(int count, int length, String first, String between) {
        StringBuilder names = new StringBuilder();
        for (int n = 0; n < count; n++) {
            String number = "" + (100 + n);
            names.append(n > 0 ? between : "").append(first).append("n".repeat(length - 4)).append(number);
        }
        return names.toString();
    }

    private static void readAgain() {
        begin("Read again (if it has at most 2000 signs) it is the same package");
        // 24 signs, 77 names of 18 and 23 of 17 signs with two signs between, and ;
        String narrow = names(77, 18, "a", ",") + "," + names(23, 17, "b", ",");
        String wide = narrow.replace(",", ", ");
        String printed = HEAD + " keeper " + wide + ";";
        due("the printed text's length", printed.length(), 2000);
        rowsStand("keeper " + narrow + ";");
        due("print", x.print(0), 2000);
        due("the last sign", x.at(1999), ';');
        due("none behind", x.at(2000), -1);
        dueRead(printed, 1);
        due("same", x.same(0, 1) ? 1 : 0, 1);
        due("differ", x.differ(0, 1), 0);
        afresh();
        dueRead(HEAD + "keeper " + narrow + "x;", 0);
        due("print of one sign more", x.print(0), 2001);
        due("the last sign", x.at(2000), ';');
        due("none behind", x.at(2001), -1);
        afresh();
        dueRead(printed.substring(0, 1999) + "x;", -2001);
    }

    private static void longestPrinted() {
        begin("PRINTED: (if it has at most 2000 signs): it may have more");
        StringBuilder text = new StringBuilder(HEAD + "any ");
        StringBuilder want = new StringBuilder(HEAD + " any ");
        for (int n = 0; n < 200; n++) {
            boolean both = n < 54;
            text.append(n > 0 ? "|" : "").append(both ? "a>9.9.9<12.9.9" : "a>9.9.9");
            want.append(n > 0 ? " | " : "").append(both ? "a >= 9.9.10 < 12.9.9" : "a >= 9.9.10");
        }
        text.append(";");
        want.append(";");
        due("the text has at most 2000 signs", text.length() <= 2000 ? 1 : 0, 1);
        stands(text.toString());
        due("print", x.print(0), want.length());
        duePrinted(want.toString());
    }
}
