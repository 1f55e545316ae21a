/**
 * The section "What it is" and the promises 1 to 15: each sentence that names a boundary case, in the
 * document's words.
 */
public final class CallBoundaries extends Checks {
    private static final int[] NO_PACKAGES = {-1, 1, 2, 39, 40, 41, 512, 10000, Integer.MAX_VALUE, Integer.MIN_VALUE};
    private static final int[] WILD = {-1, -2, 20, 200, 201, 400, 512, 2000, Integer.MAX_VALUE, Integer.MIN_VALUE};
    private static final String TOP = "999999.999999.999999";

    public static void main(String[] args) {
        theCallsOfAnObject();
        noPackages();
        objectsApart();
        highestByteFirst();
        aByte0();
        signsAbove127();
        numbersFrom0();
        fortyPackages();
        rowsOfNone();
        rowOfNone();
        rowSets();
        rowLengths();
        rowWhats();
        letterOfNone();
        letterSecondNames();
        lowOfKinds();
        highOfKinds();
        notAbove();
        lowAndHighOfNone();
        checkFirst();
        checkOfNone();
        sameNamesAndVersions();
        sameFeatures();
        sameRows();
        sameSets();
        sameOneForOne();
        sameOfNone();
        differRows();
        differOneForOne();
        differFull();
        differOfNone();
        changeOrder();
        changeOfNone();
        changeStays();
        printOfNone();
        printStays();
        foldBlanks();
        foldRefused();
        foldStays();
        atOfNone();
        finish();
    }

    private static void type(PackageRows object, String text) {
        for (int from = 0; from < text.length(); from += 8) {
            long signs = 0;
            for (int k = from; k < from + 8; k++) {
                signs = signs << 8 | (k < text.length() ? text.charAt(k) : 0);
            }
            object.type(signs);
        }
    }

    private static void theCallsOfAnObject() {
        begin("An object is used for at most 512 calls after it has been made");
        PackageRows reader = new PackageRows();
        for (int call = 1; call < 512; call++) {
            reader.type(0x2020202020202020L);
        }
        due("the 512th call", reader.read(), -2001);
        reader = new PackageRows();
        for (int call = 1; call < 512; call++) {
            due("call " + call, reader.read(), -1);
        }
        due("the 512th call", reader.fold(), -1);
        PackageRows full = new PackageRows();
        type(full, HEAD + "file a 1;".repeat(200));
        due("read()", full.read(), 0);
        type(full, HEAD + "file b 1;".repeat(200));
        due("read()", full.read(), 1);
        for (int call = 2 * 227 + 3; call < 512; call++) {
            due("call " + call, full.differ(0, 1), 400);
        }
        due("the 512th call", full.change(399, 1), 199);
        PackageRows many = new PackageRows();
        for (int p = 0; p < 40; p++) {
            type(many, "package a 0.0.1; need run b =0.0.1; keeper k");
            type(many, ", k" + (100 + p) + ";");
            due("read()", many.read(), p);
        }
        for (int call = 40 * 8 + 1; call < 512; call++) {
            due("call " + call, many.rows(call % 40), 3);
        }
        due("the 512th call", many.letter(39, 2, 0, 3), '9');
    }

    private static void noPackages() {
        begin("PackageRows(): No packages");
        for (int p : new int[] {0, -1, 1, 39, 40, Integer.MAX_VALUE, Integer.MIN_VALUE}) {
            due("rows", x.rows(p), -1);
            due("row", x.row(p, 0, 0), -1);
            due("letter", x.letter(p, 0, 0, 0), -1);
            due("low", x.low(p, 0), -1);
            due("high", x.high(p, 0), -1);
            due("check", x.check(p), -1);
            due("same", x.same(p, p) ? 1 : 0, 0);
            due("differ", x.differ(p, p), -1);
            due("print", x.print(p), -1);
            due("change", x.change(p, 0), -1);
            due("change", x.change(p, 1), -1);
            due("at", x.at(p), -1);
        }
        due("read", x.read(), -1);
        due("fold", x.fold(), -1);
        due("rows(0) after a refused read", x.rows(0), -1);
    }

    private static void objectsApart() {
        begin("PackageRows(): a new object has nothing of another");
        Calls first = new Calls();
        first.typeText(HEAD + "keeper k;");
        due("read", first.read(), 0);
        due("print", first.print(0), 26);
        first.typeText(HEAD);
        Calls second = new Calls();
        due("rows", second.rows(0), -1);
        due("at", second.at(0), -1);
        due("read", second.read(), -1);
        due("rows of the first", first.rows(0), 1);
        due("read of the first", first.read(), 1);
        due("differ of the first", first.differ(0, 1), 1);
        due("change", second.change(0, 0), -1);
    }

    private static void highestByteFirst() {
        begin("Up to eight signs are collected, the highest byte first");
        x.type(0x6162636465666768L);
        due("eight", x.fold(), 8);
        duePrinted("abcdefgh");
        x.type(0x61L);
        due("one, the lowest", x.fold(), 1);
        duePrinted("a");
        x.type(0x6200000000000000L);
        due("one, the highest", x.fold(), 1);
        duePrinted("b");
        x.type(0x6162L);
        x.type(0x6364650000000000L);
        x.type(0x66L);
        due("three calls", x.fold(), 6);
        duePrinted("abcdef");
        for (int shift = 0; shift < 64; shift += 8) {
            x.type(0x63L << shift);
            due("byte " + shift / 8, x.fold(), 1);
            duePrinted("c");
        }
    }

    private static void aByte0() {
        begin("a byte 0 is none");
        x.type(0L);
        due("no signs", x.read(), -1);
        x.type(0L);
        due("no signs", x.fold(), -1);
        x.type(0x0061000062000063L);
        due("three", x.fold(), 3);
        duePrinted("abc");
        x.type(0x2000000000000020L);
        x.type(0L);
        due("two blanks", x.read(), -3);
        x.type(0x6100L);
        x.type(0L);
        x.type(0x0062L);
        due("two letters", x.fold(), 2);
        duePrinted("ab");
    }

    private static void signsAbove127() {
        begin("Up to eight signs: a byte above 127 is one too");
        x.type(-1L);
        due("eight of them", x.read(), -1);
        x.type(0x61FF000000000000L);
        due("behind a name", x.fold(), -2);
        x.type(0x8061000000000000L);
        due("the highest bit", x.fold(), -1);
        x.type(0x6180L);
        due("the lowest byte", x.fold(), -2);
        dueRead(HEAD + "\u00a0keeper k;", -17);
        x.type(0x20202020202020E1L);
        due("a letter above 127", x.fold(), -8);
    }

    private static void numbersFrom0() {
        begin("The signs are a PACKAGE: its number, from 0");
        dueRead(HEAD, 0);
        dueRead(HEAD, 1);
        dueRead("package", -8);
        dueRead(HEAD, 2);
        dueRead("package b 1.0.0; keeper k;", 3);
        due("rows(2)", x.rows(2), 0);
        due("rows(3)", x.rows(3), 1);
        due("rows(4)", x.rows(4), -1);
    }

    private static void fortyPackages() {
        begin("- 10000 if it can stand, but there are 40");
        for (int p = 0; p < 39; p++) {
            dueRead("package a 0.0." + p + ";", p);
        }
        due("rows(39)", x.rows(39), -1);
        dueRead(HEAD + "keeper k;", 39);
        due("rows(39)", x.rows(39), 1);
        due("print", x.print(39), 26);
        dueRead(HEAD, -10000);
        dueRead(HEAD + "need run b *;", -10000);
        dueRead("package a 1.0.0", -16);
        dueRead(HEAD + "x", -17);
        dueRead(HEAD + "default f;", -25);
        dueRead(HEAD + "file f 01;", -24);
        dueRead("", -1);
        dueRead(HEAD + "keeper a" + ",a".repeat(200) + ";", -17);
        dueRead(HEAD + "keeper a" + ",a".repeat(199) + ";", -10000);
        due("rows(39)", x.rows(39), 1);
        due("rows(40)", x.rows(40), -1);
        due("rows(0)", x.rows(0), 0);
        due("what was printed stays", x.at(25), ';');
        dueFold("A", "a");
    }

    private static void rowsOfNone() {
        begin("rows: NONE if there is none such");
        stands(HEAD + "keeper k; need run b *;");
        due("rows(0)", x.rows(0), 2);
        for (int p : NO_PACKAGES) {
            due("rows(" + p + ")", x.rows(p), -1);
        }
        stands(HEAD);
        due("no rows", x.rows(0), 0);
        rowsStand("file a 1;".repeat(200));
        due("all rows", x.rows(0), 200);
    }

    private static void rowOfNone() {
        begin("row: NONE if there is none such, or for another what");
        stands(HEAD + "keeper k; need run bb <0.0.0;");
        for (int what = 0; what < 5; what++) {
            for (int p : NO_PACKAGES) {
                due("row(" + p + ", 0, " + what + ")", x.row(p, 0, what), -1);
            }
            due("row(0, 2, " + what + ")", x.row(0, 2, what), -1);
            for (int i : WILD) {
                due("row(0, " + i + ", " + what + ")", x.row(0, i, what), -1);
            }
        }
        for (int what : new int[] {-1, 5, 6, 8, 100, Integer.MAX_VALUE, Integer.MIN_VALUE}) {
            due("row(0, 0, " + what + ")", x.row(0, 0, what), -1);
            due("row(0, 1, " + what + ")", x.row(0, 1, what), -1);
        }
        dueRowWhats(0, 0, -1, 2, 2, 2);
        dueRowWhats(1, 13, -1, 1, 1, 0);
        stands(HEAD);
        due("a package without rows", x.row(0, 0, 0), -1);
    }

    /** One row of each KIND, of 8 two. */
    private static final String ALL_KINDS = "need run b *; need build b *; need test b *; need optional b *;"
            + " need peer b *; conflict b *; replace b *; provide b 1.0.0; any b *|b *; feature f: b; default f;"
            + " platform b; licence b; keeper b; script b c; file b 7;";

    private static void rowSets() {
        begin("1 the SET (of 8; else NONE)");
        rowsStand(ALL_KINDS);
        for (int i = 0; i < 17; i++) {
            due("SET of row " + i, x.row(0, i, 1), i == 8 || i == 9 ? 0 : -1);
        }
    }

    private static void rowLengths() {
        begin("2 how many signs its NAME has, 3 FOLDED");
        rowsStand("keeper a, bcdefghijklmnopqrst0, c-d, e--__..f, g.................-h;");
        int[] lengths = {1, 20, 3, 8, 20};
        int[] folded = {1, 20, 3, 3, 3};
        for (int i = 0; i < lengths.length; i++) {
            due("signs of row " + i, x.row(0, i, 2), lengths[i]);
            due("signs of row " + i + " FOLDED", x.row(0, i, 3), folded[i]);
        }
        rowsStand("script a b-----c; feature long-name: f;");
        due("the NAME's, not the feature's", x.row(0, 0, 2), 1);
        due("the first NAME's", x.row(0, 1, 2), 1);
    }

    private static void rowWhats() {
        begin("4 the WHY if it is BROKEN, else 0");
        dueWhys("need run a-a *; need run b <0.0.0; need run c *; feature f: g; keeper k, K;", 1, 2, 0, 3, 4);
        due("WHY of none", x.row(0, 5, 4), -1);
    }

    private static void letterOfNone() {
        begin("A sign of a row's name: .. NONE if there is none");
        stands(HEAD + "keeper K__k; script S t-T;");
        dueLetters(0, "K__k", "k-k", "");
        dueLetters(1, "S", "s", "t-T");
        due("the last FOLDED", x.letter(0, 0, 1, 2), 'k');
        due("behind the last FOLDED", x.letter(0, 0, 1, 3), -1);
        due("the last as written", x.letter(0, 0, 0, 3), 'k');
        due("behind the last as written", x.letter(0, 0, 0, 4), -1);
        for (int what = 0; what < 3; what++) {
            for (int k : WILD) {
                due("letter(0, 1, " + what + ", " + k + ")", x.letter(0, 1, what, k), -1);
            }
            for (int i : WILD) {
                due("letter(0, " + i + ", " + what + ", 0)", x.letter(0, i, what, 0), -1);
            }
            for (int p : NO_PACKAGES) {
                due("letter(" + p + ", 1, " + what + ", 0)", x.letter(p, 1, what, 0), -1);
            }
            due("letter(0, 2, " + what + ", 0)", x.letter(0, 2, what, 0), -1);
        }
        for (int what : new int[] {-1, 3, 4, 100, Integer.MAX_VALUE, Integer.MIN_VALUE}) {
            due("letter(0, 1, " + what + ", 0)", x.letter(0, 1, what, 0), -1);
        }
    }

    private static void letterSecondNames() {
        begin("2 the feature's (of 9) or script's second name, as written; NONE if there is none");
        rowsStand(ALL_KINDS);
        for (int i = 0; i < 17; i++) {
            int want = x.row(0, i, 0) == 9 ? 'f' : x.row(0, i, 0) == 14 ? 'c' : -1;
            due("letter(0, " + i + ", 2, 0)", x.letter(0, i, 2, 0), want);
            due("letter(0, " + i + ", 2, 1)", x.letter(0, i, 2, 1), -1);
        }
        rowsStand("feature F__f: x; feature f-F: y; script a bcdefghijklmnopqrst0;");
        dueLetters(0, "x", "x", "F__f");
        dueLetters(1, "y", "y", "f-F");
        dueLetters(2, "a", "a", "bcdefghijklmnopqrst0");
    }

    private static void lowOfKinds() {
        begin("low: kinds 0 to 6, 8, or its VERSION (7); of 15 the NUMBER; - 1 if there is none such");
        rowsStand(ALL_KINDS.replace("*", ">=1.2.3"));
        for (int i = 0; i < 17; i++) {
            int kind = x.row(0, i, 0);
            long want = kind == 7 ? 1000000000000L : kind <= 8 ? 1000002000003L : kind == 15 ? 7 : -1;
            due("low of KIND " + kind, x.low(0, i), want);
        }
        rowsStand("provide p 0.0.0; provide q 0.0.1; provide r 0.1.0; provide s 1.0.0; provide t " + TOP
                + "; file f 0; file g 999999;");
        long[] lows = {0, 1, 1000000, 1000000000000L, END - 1, 0, 999999};
        for (int i = 0; i < lows.length; i++) {
            due("low(0, " + i + ")", x.low(0, i), lows[i]);
        }
    }

    private static void highOfKinds() {
        begin("high: The first version behind a row's RANGE or VERSION; - 1 if there is none such (also of 15)");
        rowsStand(ALL_KINDS.replace("*", "<1.2.3"));
        for (int i = 0; i < 17; i++) {
            int kind = x.row(0, i, 0);
            long want = kind == 7 ? 1000000000001L : kind <= 8 ? 1000002000003L : -1;
            due("high of KIND " + kind, x.high(0, i), want);
        }
        rowsStand("file f 0; file g 999999; file h 1;");
        for (int i = 0; i < 3; i++) {
            due("high of a file", x.high(0, i), -1);
        }
    }

    private static void notAbove() {
        begin("high: (not above 10^18); 10^18 if there is no end");
        rowsStand(("need run b *; need run c >1.0.0; need run d >=TOP; need run e =TOP; need run f <=TOP;"
                + " need run g <TOP; need run h >TOP; provide i TOP; any j *|k <=TOP;").replace("TOP", TOP));
        long[] lows = {0, 1000000000001L, END - 1, END - 1, 0, 0, 0, END - 1, 0, 0};
        long[] highs = {END, END, END, END, END, END - 1, 0, END, END, END};
        for (int i = 0; i < lows.length; i++) {
            dueVersions(0, i, lows[i], highs[i]);
        }
    }

    private static void lowAndHighOfNone() {
        begin("low, high: - 1 if there is none such");
        stands(HEAD + "need run b =1.0.0;");
        dueVersions(0, 0, 1000000000000L, 1000000000001L);
        for (int p : NO_PACKAGES) {
            dueVersions(p, 0, -1, -1);
        }
        dueVersions(0, 1, -1, -1);
        for (int i : WILD) {
            dueVersions(0, i, -1, -1);
        }
    }

    private static void checkFirst() {
        begin("The first BROKEN row, and 1; 0 if there is none");
        stands(HEAD);
        due("no rows", x.check(0), 0);
        rowsStand(ALL_KINDS);
        due("none broken", x.check(0), 0);
        rowsStand("need run a *;");
        due("the first", x.check(0), 1);
        rowsStand("need run b *; need run c *; keeper k, K; need run d <0.0.0;");
        due("a middle one", x.check(0), 3);
        rowsStand("file a 1;".repeat(198) + "keeper b; keeper B;");
        due("the first of 199", x.check(0), 1);
        rowsStand("feature f:" + "f,".repeat(198) + "z; file q 1;");
        due("the 199th of 200", x.check(0), 199);
        rowsStand("feature f:" + "f,".repeat(199) + "z;");
        due("the last of 200", x.check(0), 200);
    }

    private static void checkOfNone() {
        begin("check: NONE if there is no such package");
        stands(HEAD + "need run a *;");
        for (int p : NO_PACKAGES) {
            due("check(" + p + ")", x.check(p), -1);
        }
    }

    private static void sameNamesAndVersions() {
        begin("same: their names, VERSIONS");
        dueSame(HEAD, HEAD, true);
        dueSame(HEAD, "package b 1.0.0;", false);
        dueSame(HEAD, "package aa 1.0.0;", false);
        dueSame("package a-b 1.0.0;", "package A__B 1.0.0;", true);
        dueSame(HEAD, "package a 1.0.1;", false);
        dueSame(HEAD, "package a 1.1.0;", false);
        dueSame(HEAD, "package a 2.0.0;", false);
        dueSame("package a 0.0.0;", "package a " + TOP + ";", false);
    }

    private static void sameFeatures() {
        begin("same: features (with NAMES or without)");
        dueSame(HEAD + "feature f:;", HEAD, false);
        dueSame(HEAD + "feature f:;", HEAD + "feature g:;", false);
        dueSame(HEAD + "feature f:;", HEAD + "feature F:; feature f:;", true);
        dueSame(HEAD + "feature f:; feature g:;", HEAD + "feature g:; feature f:;", true);
        dueSame(HEAD + "feature f:; feature g:;", HEAD + "feature f:;", false);
        dueSame(HEAD + "feature f: b;", HEAD + "feature f:;", false);
        dueSame(HEAD + "feature f: b;", HEAD + "feature f:; feature F: B;", true);
        dueSame(HEAD + "feature f: b; feature g:;", HEAD + "feature f: b;", false);
        dueSame(HEAD + "feature f: b; feature g:;", HEAD + "feature g: b; feature f:;", false);
        dueSame(HEAD + "feature f: b, c;", HEAD + "feature f: c; feature f: b;", true);
    }

    private static void sameRows() {
        begin("same: rows in NORMAL FORM (names FOLDED, RANGES and all as they are)");
        dueSame(HEAD + "need run b *;", HEAD, false);
        dueSame(HEAD + "need run b-c *;", HEAD + "need run B..C *;", true);
        dueSame(HEAD + "need run b *;", HEAD + "need build b *;", false);
        dueSame(HEAD + "need run b *;", HEAD + "need run c *;", false);
        dueSame(HEAD + "need run b >1.0.0;", HEAD + "need run b >=1.0.1;", true);
        dueSame(HEAD + "need run b >1.0.0;", HEAD + "need run b >=1.0.0;", false);
        dueSame(HEAD + "need run b <1.0.0;", HEAD + "need run b <=1.0.0;", false);
        dueSame(HEAD + "need run b <=" + TOP + ";", HEAD + "need run b *;", true);
        dueSame(HEAD + "need run b <0.0.0;", HEAD + "need run b >2.0.0 <1.0.0;", true);
        dueSame(HEAD + "need run b >1.0.0; need run B <2.0.0;", HEAD + "need run b <2.0.0 >1.0.0;", true);
        dueSame(HEAD + "keeper k, k, l;", HEAD + "keeper L; keeper K;", true);
        dueSame(HEAD + "keeper k;", HEAD + "licence k;", false);
        dueSame(HEAD + "provide p 1.0.0;", HEAD + "provide P 1.0.0;", true);
        dueSame(HEAD + "provide p 1.0.0;", HEAD + "provide p 1.0.1;", false);
        dueSame(HEAD + "script s t;", HEAD + "script S T;", true);
        dueSame(HEAD + "script s t;", HEAD + "script s u;", false);
        dueSame(HEAD + "script s t-u;", HEAD + "script s t__U;", true);
        dueSame(HEAD + "file f 1;", HEAD + "file F 1;", true);
        dueSame(HEAD + "file f 1;", HEAD + "file f 2;", false);
        dueSame(HEAD + "feature f:; feature g: f;", HEAD + "feature g:; feature f: f;", false);
    }

    private static void sameSets() {
        begin("same: SETS by number");
        dueSame(HEAD + "any b *|c *;", HEAD + "any c *|b *;", true);
        dueSame(HEAD + "any b *|c *; any d *|e *;", HEAD + "any e *|d *; any b *|c *;", false);
        dueSame(HEAD + "any b *|c *; any d *|e *;", HEAD + "any b *|c *; keeper k; any d *|e *;", false);
        dueSame(HEAD + "keeper k; any b *|c *; any d *|e *;", HEAD + "any b *|c *; keeper k; any e *|d *;", true);
        dueSame(HEAD + "any b *|c *|d *; any e *|f *;", HEAD + "any b *|c *; any d *|e *|f *;", false);
        dueSame(HEAD + "any b *|b *; any b *|b *;", HEAD + "any b *|b *|b *|b *;", false);
        dueSame(HEAD + "any b *|b *; any b *|b *;", HEAD + "any b *|b *; any b *|B *;", true);
    }

    private static void sameOneForOne() {
        begin("same: like ones one for one, in any order");
        dueSame(HEAD + "file f 1; file f 2; file f 2;", HEAD + "file f 2; file f 1; file f 2;", true);
        dueSame(HEAD + "file f 1; file f 2; file f 2;", HEAD + "file f 1; file f 1; file f 2;", false);
        dueSame(HEAD + "file f 1; file f 1;", HEAD + "file f 1;", false);
        dueSame(HEAD + "provide p 1.0.0; provide p 2.0.0;", HEAD + "provide P 2.0.0; provide p 1.0.0;", true);
        dueSame(HEAD + "provide p 1.0.0; provide p 1.0.0;", HEAD + "provide p 1.0.0;", false);
        dueSame(HEAD + "script s t; script s u;", HEAD + "script s U; script S t;", true);
        dueSame(HEAD + "script s t; script s t;", HEAD + "script s t; script s u;", false);
        dueSame(HEAD + "any b *|b =1.0.0;", HEAD + "any b =1.0.0|b *;", true);
        dueSame(HEAD + "any b *|b *|b =1.0.0;", HEAD + "any b =1.0.0|b *|b =1.0.0;", false);
        dueSame(HEAD + "feature f: b, b;", HEAD + "feature f: b;", false);
        dueSame(HEAD + "feature f: b, B;", HEAD + "feature F: b; feature f: b;", true);
        rowsStand("file f 1; file f 2; file g 1;");
        dueRead(HEAD + "file f 2; file f 1; file G 1;", 1);
        due("differ", x.differ(0, 1), 0);
    }

    private static void sameOfNone() {
        begin("same: False if there are none such");
        stands(HEAD);
        due("same(0, 0)", x.same(0, 0) ? 1 : 0, 1);
        for (int p : NO_PACKAGES) {
            due("same(0, " + p + ")", x.same(0, p) ? 1 : 0, 0);
            due("same(" + p + ", 0)", x.same(p, 0) ? 1 : 0, 0);
            due("same(" + p + ", " + p + ")", x.same(p, p) ? 1 : 0, 0);
        }
    }

    private static void dueDiffer(String rows, String others, int... changes) {
        afresh();
        dueRead(HEAD + rows, 0);
        dueRead("package other 2.0.0; feature z:;" + others, 1);
        due("differ of '" + rows + "' and '" + others + "'", x.differ(0, 1), changes.length / 2);
        dueChanges(changes);
    }

    private static void differRows() {
        begin("How many rows of two packages, in NORMAL FORM, are in one of both alone");
        dueDiffer("", "");
        dueDiffer("need run b *;", "", 0, 0);
        dueDiffer("", "need run b *;", 1, 0);
        dueDiffer("need run b-c *;", "need run B_.C *;");
        dueDiffer("need run b *;", "need build b *;", 0, 0, 1, 0);
        dueDiffer("need run b *;", "need run b >0.0.0;", 0, 0, 1, 0);
        dueDiffer("need run b <=1.0.0;", "need run b <1.0.1;");
        dueDiffer("keeper k, k, K;", "keeper k;");
        dueDiffer("script s t;", "script S T;");
        dueDiffer("script s t;", "script s u;", 0, 0, 1, 0);
        dueDiffer("provide p 1.0.0;", "provide p 1.0.1;", 0, 0, 1, 0);
        dueDiffer("file f 1;", "file f 2;", 0, 0, 1, 0);
        dueDiffer("feature f: b;", "feature g: b;", 0, 0, 1, 0);
        dueDiffer("feature f: b;", "feature F: B;");
        dueDiffer("any b *|c *;", "any C *|B *;");
        dueDiffer("any b *|c *; any d *|e *;", "any d *|e *; any b *|c *;",
                0, 0, 0, 1, 0, 2, 0, 3, 1, 0, 1, 1, 1, 2, 1, 3);
        begin("differ: one and the same package");
        rowsStand(ALL_KINDS);
        due("differ(0, 0)", x.differ(0, 0), 0);
        dueChanges();
    }

    private static void differOneForOne() {
        begin("differ: like ones one for one");
        dueDiffer("file f 1; file f 1;", "file f 1;", 0, 1);
        dueDiffer("file f 1;", "file f 1; file f 1; file f 1;", 1, 1, 1, 2);
        dueDiffer("file f 1; file f 2;", "file f 2; file f 1;");
        dueDiffer("file f 1; file f 2; file f 3;", "file f 3; file f 4; file f 1;", 0, 1, 1, 1);
        dueDiffer("provide p 1.0.0; provide p 1.0.0;", "provide P 1.0.0; provide p 2.0.0;", 0, 1, 1, 1);
        dueDiffer("script s t; script s u;", "script s u; script s v;", 0, 0, 1, 1);
        dueDiffer("feature f: b, b, b;", "feature f: b; feature F: B;", 0, 2);
        dueDiffer("any b *|b =1.0.0;", "any b =1.0.0|b *;");
        dueDiffer("any b *|b *;", "any b =1.0.0|b *;", 0, 1, 1, 0);
    }

    private static void differFull() {
        begin("differ: all rows of two full packages");
        dueRead(HEAD + "file a 1;".repeat(200), 0);
        dueRead(HEAD + "file a 2;".repeat(200), 1);
        due("differ(0, 1)", x.differ(0, 1), 400);
        for (int k = 0; k < 400; k++) {
            due("change(" + k + ", 0)", x.change(k, 0), k < 200 ? 0 : 1);
            due("change(" + k + ", 1)", x.change(k, 1), k % 200);
        }
        due("change(400, 0)", x.change(400, 0), -1);
        due("change(400, 1)", x.change(400, 1), -1);
        due("differ(1, 1)", x.differ(1, 1), 0);
        due("change(0, 0)", x.change(0, 0), -1);
    }

    private static void differOfNone() {
        begin("differ: NONE if there are none such (what was told stays)");
        dueRead(HEAD + "keeper k; file f 1;", 0);
        due("differ(0, 1)", x.differ(0, 1), -1);
        dueChanges();
        dueRead(HEAD + "keeper k, l;", 1);
        due("differ(0, 1)", x.differ(0, 1), 2);
        dueChanges(0, 1, 1, 1);
        for (int p : new int[] {-1, 2, 39, 40, Integer.MAX_VALUE, Integer.MIN_VALUE}) {
            due("differ(0, " + p + ")", x.differ(0, p), -1);
            dueChanges(0, 1, 1, 1);
            due("differ(" + p + ", 0)", x.differ(p, 0), -1);
            dueChanges(0, 1, 1, 1);
            due("differ(" + p + ", " + p + ")", x.differ(p, p), -1);
            dueChanges(0, 1, 1, 1);
        }
    }

    private static void changeOrder() {
        begin("change: the first one's before the second's, each by their order");
        dueDiffer("keeper z, b, m; file q 1;", "keeper y, b, a; need run n *;", 0, 1, 0, 2, 0, 3, 1, 0, 1, 1, 1, 3);
        due("differ(1, 0)", x.differ(1, 0), 6);
        dueChanges(0, 0, 0, 1, 0, 3, 1, 1, 1, 2, 1, 3);
    }

    private static void changeOfNone() {
        begin("change: NONE if there is none such, or for another what");
        due("before any differ", x.change(0, 0), -1);
        dueDiffer("keeper k;", "keeper l, m;", 0, 0, 1, 0, 1, 1);
        for (int what : new int[] {0, 1}) {
            due("change(3, " + what + ")", x.change(3, what), -1);
            for (int k : WILD) {
                due("change(" + k + ", " + what + ")", x.change(k, what), -1);
            }
        }
        for (int what : new int[] {-1, 2, 3, 100, Integer.MAX_VALUE, Integer.MIN_VALUE}) {
            for (int k = 0; k < 4; k++) {
                due("change(" + k + ", " + what + ")", x.change(k, what), -1);
            }
        }
        due("differ(0, 0)", x.differ(0, 0), 0);
        due("after a differ of nothing", x.change(0, 0), -1);
    }

    private static void changeStays() {
        begin("change: what was told stays, whatever else is called");
        dueDiffer("keeper k;", "keeper l, m;", 0, 0, 1, 0, 1, 1);
        due("same(0, 1)", x.same(0, 1) ? 1 : 0, 0);
        due("same(0, 0)", x.same(0, 0) ? 1 : 0, 1);
        due("same(1, 1)", x.same(1, 1) ? 1 : 0, 1);
        dueChanges(0, 0, 1, 0, 1, 1);
        dueRead(HEAD + "file f 1;", 2);
        dueRead(HEAD + "file f", -23);
        dueFold("Ab", "ab");
        due("print", x.print(0), 26);
        due("check", x.check(1), 0);
        dueChanges(0, 0, 1, 0, 1, 1);
    }

    private static void printOfNone() {
        begin("print: NONE if there is none such (what was printed before stays)");
        due("print(0)", x.print(0), -1);
        due("at(0)", x.at(0), -1);
        dueRead(HEAD + "keeper k;", 0);
        due("reading prints nothing", x.at(0), -1);
        due("print(0)", x.print(0), 26);
        for (int p : NO_PACKAGES) {
            due("print(" + p + ")", x.print(p), -1);
        }
        duePrinted(HEAD + " keeper k;");
        dueFold("Name", "name");
        for (int p : NO_PACKAGES) {
            due("print(" + p + ")", x.print(p), -1);
        }
        duePrinted("name");
    }

    private static void printStays() {
        begin("print: what was printed stays until something else is");
        dueRead(HEAD + "keeper k;", 0);
        dueRead("package b 1.0.0;", 1);
        due("print(0)", x.print(0), 26);
        dueRead("package c 1.0.0;", 2);
        dueRead("package c", -10);
        due("differ(0, 1)", x.differ(0, 1), 1);
        due("same(0, 1)", x.same(0, 1) ? 1 : 0, 0);
        duePrinted(HEAD + " keeper k;");
        due("print(1)", x.print(1), 16);
        duePrinted("package b 1.0.0;");
        due("print(0)", x.print(0), 26);
        duePrinted(HEAD + " keeper k;");
        due("print(0) once more", x.print(0), 26);
        duePrinted(HEAD + " keeper k;");
    }

    private static void foldBlanks() {
        begin("fold: The signs are a NAME (BLANKS ahead of it and behind it or not)");
        dueFold("Ab", "ab");
        dueFold(" Ab", "ab");
        dueFold("Ab ", "ab");
        dueFold("\nAb\n", "ab");
        dueFold(" \n \n Ab \n\n ", "ab");
        afresh();
        dueFold(" ".repeat(1980) + "abcdefghijklmnopqrst", "abcdefghijklmnopqrst");
        afresh();
        dueFold(" ".repeat(1981) + "abcdefghijklmnopqrst", "abcdefghijklmnopqrs");
        afresh();
        dueFold("A" + " ".repeat(1999) + "b", "a");
        dueNoFold("a\tb", -2, "a");
        dueNoFold("\ta", -1, "a");
        dueNoFold("a\r", -2, "a");
    }

    private static void foldRefused() {
        begin("fold: or as told");
        String[] texts = {"", " ", " \n ", "-", "1a", " 1a", "a-", "  a_", "a b", "a  b", "a\nb", "a;", "a ;", "a,b",
            "a*", "a- b", "abcdefghijklmnopqrstu", " abcdefghijklmnopqrstu", "package a 1.0.0;"};
        int[] wants = {-1, -2, -4, -1, -1, -2, -1, -3, -3, -4, -3, -2, -3, -2, -2, -1, -1, -2, -9};
        for (int n = 0; n < texts.length; n++) {
            dueNoFold(texts[n], wants[n], "");
        }
    }

    private static void foldStays() {
        begin("fold: (what was printed before stays)");
        dueRead(HEAD, 0);
        due("print(0)", x.print(0), 16);
        dueNoFold("a b", -3, HEAD);
        dueNoFold("", -1, HEAD);
        dueNoFold("abcdefghijklmnopqrstu", -1, HEAD);
        dueNoFold("name-", -1, HEAD);
        dueFold("Name", "name");
        dueNoFold("other name", -7, "name");
        dueNoFold("9", -1, "name");
        dueFold("n", "n");
    }

    private static void atOfNone() {
        begin("at: A sign of what was printed; NONE if there is none");
        for (int k : WILD) {
            due("at(" + k + ") of nothing", x.at(k), -1);
        }
        due("at(0) of nothing", x.at(0), -1);
        dueFold("Ab", "ab");
        due("at(0)", x.at(0), 'a');
        due("at(1)", x.at(1), 'b');
        due("at(2)", x.at(2), -1);
        for (int k : WILD) {
            due("at(" + k + ")", x.at(k), -1);
        }
        dueRead(HEAD, 0);
        due("print(0)", x.print(0), 16);
        due("at(15)", x.at(15), ';');
        due("at(16)", x.at(16), -1);
        dueFold("c", "c");
        due("at(0)", x.at(0), 'c');
        due("at(1), of the text before", x.at(1), -1);
        due("at(15), of the text before", x.at(15), -1);
    }
}
