/** Each promise of the document with ordinary inputs, the edges that it names, and wrong inputs. */
public final class PromiseTests extends Checks {
    public static void main(String[] args) {
        aNewObject();
        typing();
        readingHeads();
        readingNames();
        readingVersions();
        readingRanges();
        readingRows();
        readingLists();
        readingDefaults();
        readingTooManyRows();
        readingTooManyPackages();
        rows();
        row();
        normalOrder();
        joining();
        broken();
        letter();
        lowAndHigh();
        check();
        same();
        differAndChange();
        likeOnesOneForOne();
        print();
        printedRanges();
        printedFeatures();
        fold();
        at();
        finish();
    }

    private static void aNewObject() {
        begin("1 A new object");
        due("NONE", PackageRows.NONE, -1);
        due("rows(0)", x.rows(0), -1);
        due("row(0, 0, 0)", x.row(0, 0, 0), -1);
        due("letter(0, 0, 0, 0)", x.letter(0, 0, 0, 0), -1);
        due("low(0, 0)", x.low(0, 0), -1);
        due("high(0, 0)", x.high(0, 0), -1);
        due("check(0)", x.check(0), -1);
        due("same(0, 0)", x.same(0, 0) ? 1 : 0, 0);
        due("differ(0, 0)", x.differ(0, 0), -1);
        due("change(0, 0)", x.change(0, 0), -1);
        due("print(0)", x.print(0), -1);
        due("at(0)", x.at(0), -1);
        due("read()", x.read(), -1);
        due("fold()", x.fold(), -1);
    }

    private static void typing() {
        begin("2 type");
        x.type(0x6100000000000042L);
        due("two signs", x.fold(), 2);
        duePrinted("ab");
        x.type(0L);
        due("no sign", x.fold(), -1);
        x.type(0x6100620063006400L);
        due("a byte 0 is none", x.fold(), 4);
        duePrinted("abcd");
        x.type(0x6162636465666768L);
        x.type(0x696AL);
        due("the next signs come behind", x.fold(), 10);
        duePrinted("abcdefghij");
        x.type(0x61L);
        x.type(-1L);
        due("signs above 127 are signs", x.fold(), -2);

        begin("2 type: more than 2000 signs");
        x.typeText(" ".repeat(1999) + "ab");
        due("the 2001st is dropped", x.fold(), 1);
        duePrinted("a");
        afresh();
        x.typeText(" ".repeat(2500));
        due("2000 are left", x.fold(), -2001);
        afresh();
        x.typeText("package a 1.0.0;" + " ".repeat(1984) + "x");
        due("what can't stand was dropped", x.read(), 0);
        due("they are used up", x.read(), -1);
    }

    private static void readingHeads() {
        begin("3 read: head");
        dueRead("", -1);
        dueRead("  \n", -4);
        dueRead("package a 1.0.0;", 0);
        dueRead("\n package\na\n1.0.0\n;\n ", 1);
        dueRead("package a 1.0.0", -16);
        dueRead("package a 1.0.0  ", -18);
        dueRead("Package a 1.0.0;", -1);
        dueRead(" pack a 1.0.0;", -2);
        dueRead("packages a 1.0.0;", -1);
        dueRead("package", -8);
        dueRead("package 1.0.0;", -9);
        dueRead("package a;", -10);
        dueRead("package a1.0.0;", -15);
        dueRead("package a 1.0.0 b;", -17);
        dueRead("package a 1.0.0b;", -16);
        dueRead("package a 1.0.0;;", -17);
        dueRead("package a 1.0.0; x;", -18);
        dueRead("package a 1.0.0; Need run b *;", -18);
        dueRead("package a\t1.0.0;", -10);
        dueRead("package package 1.0.0;", 2);
        dueRead("(", -1);
    }

    private static void readingNames() {
        begin("3 read: NAME");
        dueRead("package abcdefghijklmnopqrst 1.0.0;", 0);
        dueRead("package abcdefghijklmnopqrstu 1.0.0;", -9);
        dueRead("package a- 1.0.0;", -9);
        dueRead("package a_ 1.0.0;", -9);
        dueRead("package a. 1.0.0;", -9);
        dueRead("package -a 1.0.0;", -9);
        dueRead("package a-_.-b9 1.0.0;", 1);
        dueRead("package a-", -9);
        dueRead("package a+b 1.0.0;", -10);
        dueRead("package Z9 1.0.0;", 2);
    }

    private static void readingVersions() {
        begin("3 read: VERSION and NUMBER");
        dueRead("package a 0.0.0;", 0);
        dueRead("package a 999999.999999.999999;", 1);
        dueRead("package a 1000000.0.0;", -11);
        dueRead("package a 0.1000000.0;", -13);
        dueRead("package a 0.0.1000000;", -15);
        dueRead("package a 00.0.0;", -11);
        dueRead("package a 0.01.0;", -13);
        dueRead("package a 0.0.01", -15);
        dueRead("package a 1 .2.3;", -13);
        dueRead("package a 1. 2.3;", -14);
        dueRead("package a 1.2\n .3;", -16);
        dueRead("package a 1.2. 3;", -16);
        dueRead("package a 1.2. ;", -16);
        dueRead("package a 1.2.;", -15);
        dueRead("package a 1.2;", -14);
        dueRead("package a 1.2 ", -15);
        dueRead("package a 1.2. ", -16);
        dueRead("package a 1.2.", -15);
        dueRead("package a 1..2;", -13);
        dueRead("package a 1.2.3.4;", -16);
        dueRead("package a .1.2;", -11);
        dueRead("package a 1.b.2;", -13);
    }

    private static void readingRanges() {
        begin("3 read: RANGE");
        dueRow("need run b *;", 0);
        dueRow("need run b*;", 1);
        dueRow("need run b>=1.0.0<2.0.0;", 2);
        dueRow("need run b >= \n 1.0.0 < 2.0.0 ;", 3);
        dueRow("need run b = 1.0.0;", 4);
        dueRow("need run b <=1.0.0>0.0.0;", 5);
        dueRow("need run b;", -11);
        dueRow("need run b", -11);
        dueRow("need run b 1.0.0;", -12);
        dueRow("need run b ** ;", -13);
        dueRow("need run b * <1.0.0;", -14);
        dueRow("need run b <1.0.0 *;", -19);
        dueRow("need run b <1.0.0 <2.0.0 <3.0.0;", -26);
        dueRow("need run b > =1.0.0;", -14);
        dueRow("need run b =>1.0.0;", -13);
        dueRow("need run b ==1.0.0;", -13);
        dueRow("need run b >==1.0.0;", -14);
        dueRow("need run b <>1.0.0;", -13);
        dueRow("need run b >;", -13);
        dueRow("need run b > ", -14);
        dueRow("need run b >1.0.0 <;", -20);
        dueRow("need run b >1.0.0 <01.0.0;", -20);
        dueRow("need run b >1.0.0, <2.0.0;", -18);
        dueRow("need run b >1.0.0 | c *;", -19);
        dueRow("need run b ~1.0.0;", -12);
    }

    private static void readingRows() {
        begin("3 read: rows");
        dueRow("need build b *;need test b *;need optional b *;need peer b *;need run b *;", 0);
        dueRow("need ruN b *;", -6);
        dueRow("need b *;", -6);
        dueRow("need", -5);
        dueRow("need run", -9);
        dueRow("need run *;", -10);
        dueRow("need-run b *;", -1);
        dueRow("need run b * need", -14);
        dueRow("need run b *", -13);
        dueRow("conflict c >1.0.0; replace r <1.0.0; provide p 1.0.0;", 1);
        dueRow("conflict c 1.0.0;", -12);
        dueRow("replace r;", -10);
        dueRow("provide p *;", -11);
        dueRow("provide p =1.0.0;", -11);
        dueRow("script s t; file f 0; file g 999999;", 2);
        dueRow("script s;", -9);
        dueRow("script s t u;", -12);
        dueRow("file f;", -7);
        dueRow("file f 1000000;", -8);
        dueRow("file f 01;", -8);
        dueRow("file f 1.2;", -9);
        dueRow("file f 1b;", -9);
        dueRow("file f", -7);
        dueRow("run b *;", -1);
        dueRow("9;", -1);
        dueRow("need ;", -6);
        dueRow("need run ;", -10);
        dueRow("conflict ;", -10);
        dueRow("provide ;", -9);
        dueRow("script ;", -8);
        dueRow("file ;", -6);
        dueRow("need peer b- *;", -11);
        dueRow("replace b- *;", -9);
        dueRow("provide b- 1.0.0;", -9);
        dueRow("script b- c;", -8);
        dueRow("script b c-;", -10);
        dueRow("file b- 1;", -6);
    }

    private static void readingLists() {
        begin("3 read: rows of several names");
        dueRow("any a *|b *;", 0);
        dueRow("any a *;", -8);
        dueRow("any a *", -8);
        dueRow("any a * | ;", -11);
        dueRow("any a * , b *;", -9);
        dueRow("any a | b *;", -7);
        dueRow("any a >1.0.0 <2.0.0|b*|c=1.0.0;", 1);
        dueRow("feature f:; feature g: a; feature h: a, b ,c;", 2);
        dueRow("feature f;", -10);
        dueRow("feature f", -10);
        dueRow("feature : a;", -9);
        dueRow("feature ;", -9);
        dueRow("feature f-: a;", -9);
        dueRow("feature f: a-;", -12);
        dueRow("any a- *|b *;", -5);
        dueRow("any a *|b- *;", -9);
        dueRow("feature f: ,a;", -12);
        dueRow("feature f: a,;", -14);
        dueRow("feature f: a b;", -14);
        dueRow("feature f:", -11);
        dueRow("platform a, b; licence c; keeper d,e,f;", 3);
        dueRow("platform ;", -10);
        dueRow("platform a,;", -12);
        dueRow("licence a b;", -11);
        dueRow("keeper a", -9);
        dueRow("keeper a-;", -8);
    }

    private static void readingDefaults() {
        begin("3 read: defaults that name no feature");
        dueRow("default a;", -9);
        dueRow("feature a:; default a, b;", -24);
        dueRow("default A.B; feature a-b:;", 0);
        dueRow("default a, b; feature b: a;", -9);
        dueRow("default b, a, c; feature b: a;", -12);
        dueRow("default a; need", -16);
        dueRow("default a; x", -12);
        dueRow("feature: a", -8);
        dueRow("feature b: a; default ;", -23);
        dueRow("default b; default z; feature b:; default y;", -20);
    }

    private static void readingTooManyRows() {
        begin("3 read: more than 200 rows");
        String two = "a,".repeat(199) + "a";
        dueRowAlone("keeper " + two + ";", 0);
        due("they join", x.rows(0), 1);
        dueRowAlone("keeper " + two + ",a;", -1);
        dueRowAlone("keeper " + two + "; keeper ", -416);
        dueRowAlone("keeper " + two + "; keeper a-;", -416);
        dueRowAlone("keeper " + two + "; keeper a", -409);
        dueRowAlone("keeper " + two + "; need run b 1;", -420);
        dueRowAlone("keeper " + two + "; need run b <1.0.0 >2;", -429);
        dueRowAlone("keeper " + two + "; need run b <1.0.0 x", -409);
        dueRowAlone("keeper " + two + "; any b <1.0.0 x", -409);
        dueRowAlone("keeper " + two + "; script b ;", -418);
        dueRowAlone("keeper " + two + "; script b c d", -409);
        dueRowAlone("keeper " + two + "; file b x;", -416);
        dueRowAlone("keeper " + two + "; file b 1", -409);
        dueRowAlone("keeper " + two + "; provide b 1.0;", -422);
        dueRowAlone("keeper " + two + "; provide b 1.0.0", -409);
        dueRowAlone("keeper " + two + "; feature b:; feature c:;", 0);
        dueRowAlone("keeper " + two + "; feature b:; feature c: b;", -421);
        dueRowAlone("default " + two + "; feature b: b;", -410);
        dueRowAlone("default z; keeper " + two + ";", -12);
    }

    private static void readingTooManyPackages() {
        begin("3 read: more than 40 packages");
        for (int p = 0; p < 40; p++) {
            dueRead("package a 1.0." + p + ";", p);
        }
        dueRead("package a 1.0.0;", -10000);
        due("they are used up", x.read(), -1);
        dueRead("package a 1.0.0", -16);
        dueRead("package a 1.0.0; default b;", -26);
        due("the last stays", x.rows(39), 0);
        due("there is none behind", x.rows(40), -1);
    }

    private static void rows() {
        begin("4 rows");
        dueRead("package a 1.0.0;", 0);
        dueRead("package a 1.0.0; need run b *; need run B *; need test b *; feature f:;", 1);
        dueRead("package a 1.0.0; x", -18);
        due("none", x.rows(0), 0);
        due("joined", x.rows(1), 2);
        due("below", x.rows(-1), -1);
        due("above", x.rows(2), -1);
        due("far above", x.rows(Integer.MAX_VALUE), -1);
        due("far below", x.rows(Integer.MIN_VALUE), -1);
    }

    private static void row() {
        begin("5 row");
        dueRow("any A__b *|c >1.0.0 <1.0.0; any d *| e *; keeper k;", 0);
        dueRowWhats(0, 8, 0, 4, 3, 0);
        dueRowWhats(1, 8, 0, 1, 1, 2);
        dueRowWhats(2, 8, 1, 1, 1, 0);
        dueRowWhats(3, 8, 1, 1, 1, 0);
        dueRowWhats(4, 13, -1, 1, 1, 0);
        dueRowWhats(5, -1, -1, -1, -1, -1);
        dueRowWhats(-1, -1, -1, -1, -1, -1);
        due("what 5", x.row(0, 0, 5), -1);
        due("what -1", x.row(0, 0, -1), -1);
        due("no package", x.row(1, 0, 0), -1);
        due("no package", x.row(-1, 0, 0), -1);
    }

    private static void normalOrder() {
        begin("NORMAL FORM: order");
        dueRow("file f 1; script s t; keeper k; licence l; platform p; feature d:; default d; feature f: d;"
                + " any y *|z *; provide p 1.0.0; replace r *; conflict c *; need peer n *; need optional n *;"
                + " need test n *; need build n *; need run n *;", 0);
        int[] kinds = {0, 1, 2, 3, 4, 5, 6, 7, 8, 8, 9, 10, 11, 12, 13, 14, 15};
        due("rows", x.rows(0), kinds.length);
        for (int i = 0; i < kinds.length; i++) {
            due("kind of row " + i, x.row(0, i, 0), kinds[i]);
        }

        begin("NORMAL FORM: names");
        dueRow("keeper b, a9, AB, a.b, a, ab0, A--b-c;", 0);
        dueNames(0, "a", "a.b", "A--b-c", "a9", "AB", "ab0", "b");
        dueRow("any z *|y *; any b *|a *;", 1);
        dueNames(1, "y", "z", "a", "b");
        dueRow("feature b: c, a; feature a-b: z; feature a: x; feature A_b: Y, z; feature B: b;", 2);
        dueNames(2, "x", "Y", "z", "z", "a", "b", "c");
        due("a feature's like names as they came", x.letter(2, 2, 2, 0), 'a');
        due("a feature's like names as they came", x.letter(2, 3, 2, 0), 'A');
        dueRow("script b a; script a z; script A b; file q 2; file Q 1; provide p 2.0.0; provide p 1.0.0;", 3);
        dueNames(3, "p", "p", "a", "A", "b", "q", "Q");
        due("provided as they came", x.low(3, 0), 2000000000000L);
        due("files as they came", x.low(3, 5), 2);
    }

    private static void joining() {
        begin("NORMAL FORM: joining");
        dueRow("need run b >=1.0.0; need run B <3.0.0; need run b <=2.0.0; need build b *;", 0);
        due("rows", x.rows(0), 2);
        dueNames(0, "b", "b");
        dueVersions(0, 0, 1000000000000L, 2000000000001L);
        dueRow("conflict b <1.0.0; conflict b >1.0.0; replace b <1.0.0; replace b >2.0.0; replace b *;", 1);
        due("rows", x.rows(1), 2);
        dueVersions(1, 0, 0, 0);
        dueVersions(1, 1, 0, 0);
        dueRow("platform a, A, b; licence a; keeper a,b,a; feature a:; default a, A;", 2);
        dueNames(2, "a", "a", "b", "a", "a", "b");
        dueRow("provide b 1.0.0; provide b 1.0.0; script b c; script b c; file b 1; file b 1;", 3);
        due("others stay", x.rows(3), 6);
        dueRow("any b *|b *; feature f: b, b; need optional b *;", 4);
        due("others stay", x.rows(4), 5);
    }

    private static void broken() {
        begin("BROKEN: own name");
        dueWhys("need run A.A *;", 1);
        dueWhys("need build a-a *; need test a-a *; need optional a-a *; need peer a-a *;", 1, 1, 1, 1);
        dueWhys("any b *|a_a *;", 1, 0);
        dueWhys("conflict a-a *; replace a-a *; provide a-a 1.0.0; keeper a-a; file a-a 1; script a-a b;",
                0, 0, 0, 0, 0, 0);
        begin("BROKEN: no version");
        dueWhys("need run b <0.0.0; need build b <0.0.0; need test b <0.0.0; need optional b <0.0.0;"
                + "need peer b <0.0.0; conflict b <0.0.0; replace b <0.0.0; any b <0.0.0|c <0.0.0;",
                2, 2, 2, 2, 2, 2, 2, 2, 2);
        dueWhys("provide b 0.0.0; file b 0;", 0, 0);
        begin("BROKEN: neither feature nor optional need");
        dueWhys("feature f: g, h, I.i, f, a-a; feature G:; need optional i_I *; need run h *;",
                0, 0, 3, 0, 0, 3, 0);
        dueWhys("feature f: B-b; need optional b_b *;", 0, 0);
        begin("BROKEN: written differently");
        dueWhys("need run b-b *; need run b--b *; keeper k, k, k_k, k-k;", 4, 0, 4);
        dueWhys("need run b *; need run B *; keeper k, K; keeper l, l; platform p-p, p_p; licence q, q, Q;"
                + " feature d:; default d, D; conflict c *; conflict C *; replace r *; replace r >1.0.0;",
                4, 4, 0, 4, 4, 4, 4, 0);
        dueWhys("file f 1; file F 1; script s t; script S t; provide p 1.0.0; provide P 1.0.0; any b *|B *;",
                0, 0, 0, 0, 0, 0, 0, 0);
        begin("BROKEN: the least counts");
        dueWhys("need run a-a <0.0.0; need run A-A *;", 1);
        dueWhys("need run b <0.0.0; need run B *;", 2);
    }

    private static void letter() {
        begin("6 letter");
        dueRow("feature F_x: B.-c; need optional b-c *; script Go Run.sh; file Ff 1;", 0);
        dueLetters(0, "b-c", "b-c", "");
        dueLetters(1, "B.-c", "b-c", "F_x");
        dueLetters(2, "Go", "go", "Run.sh");
        dueLetters(3, "Ff", "ff", "");
        dueLetters(4, "", "", "");
        dueLetters(-1, "", "", "");
        due("what 3", x.letter(0, 1, 3, 0), -1);
        due("what -1", x.letter(0, 1, -1, 0), -1);
        due("k far below", x.letter(0, 1, 0, Integer.MIN_VALUE), -1);
        due("k far above", x.letter(0, 1, 2, Integer.MAX_VALUE), -1);
        due("no package", x.letter(1, 0, 0, 0), -1);
    }

    private static void lowAndHigh() {
        begin("7 low, 8 high");
        dueRow("need run b =1.2.3; need build b >=1.2.3; need test b <=1.2.3; need optional b >1.2.3;"
                + " need peer b <1.2.3; conflict b *; replace b >1.2.3 <=1.2.4; provide b 1.2.3;"
                + " any b >1.2.999999|c =0.0.0; feature f:; default f; platform b; licence b; keeper b;"
                + " script b c; file b 123456; feature f: b;", 0);
        long v = 1000002000003L;
        dueVersions(0, 0, v, v + 1);
        dueVersions(0, 1, v, END);
        dueVersions(0, 2, 0, v + 1);
        dueVersions(0, 3, v + 1, END);
        dueVersions(0, 4, 0, v);
        dueVersions(0, 5, 0, END);
        dueVersions(0, 6, v + 1, v + 2);
        dueVersions(0, 7, v, v + 1);
        dueVersions(0, 8, 1000003000000L, END);
        dueVersions(0, 9, 0, 1);
        for (int i = 10; i < 16; i++) {
            dueVersions(0, i, -1, -1);
        }
        dueVersions(0, 16, 123456, -1);
        dueVersions(0, 17, -1, -1);
        dueVersions(0, -1, -1, -1);
        dueVersions(1, 0, -1, -1);
        dueRow("need run b =999999.999999.999999; need build b >999999.999999.999999;"
                + " need test b <=999999.999999.999999; need peer b >=999999.999999.999999;"
                + " provide b 999999.999999.999999; provide c 0.0.0; any d =1.0.0 =2.0.0|e >=2.0.0 <2.0.0"
                + "|f <5.0.0 <4.0.0|g >5.0.0 >=5.0.1;", 1);
        dueVersions(1, 0, END - 1, END);
        dueVersions(1, 1, 0, 0);
        dueVersions(1, 2, 0, END);
        dueVersions(1, 3, END - 1, END);
        dueVersions(1, 4, END - 1, END);
        dueVersions(1, 5, 0, 1);
        dueVersions(1, 6, 0, 0);
        dueVersions(1, 7, 0, 0);
        dueVersions(1, 8, 0, 4000000000000L);
        dueVersions(1, 9, 5000000000001L, END);
    }

    private static void check() {
        begin("9 check");
        dueRead("package a 1.0.0;", 0);
        due("no rows", x.check(0), 0);
        dueRead("package a 1.0.0; need run c *; need run b *;", 1);
        due("none broken", x.check(1), 0);
        dueRead("package a 1.0.0; need run c <0.0.0; need run b *; keeper k, K;", 2);
        due("the first broken", x.check(2), 2);
        due("below", x.check(-1), -1);
        due("above", x.check(3), -1);
    }

    private static void same() {
        begin("10 same");
        String all = "package Lib_X 1.2.3; need run b >=1.0.0 <1.0.1; any b *|c *; any d *|e *; feature f:;"
                + " feature G: f, f; default f; script s t; script s u; file q 1; file q 2; provide p 1.0.0;";
        dueRead(all, 0);
        due("itself", x.same(0, 0) ? 1 : 0, 1);
        dueSame(all, all, true);
        dueSame(all, all.replace("Lib_X", "lib.x"), true);
        dueSame(all, all.replace("Lib_X", "libx"), false);
        dueSame(all, all.replace("1.2.3", "1.2.4"), false);
        dueSame(all, all.replace("run b", "run B"), true);
        dueSame(all, all.replace(">=1.0.0 <1.0.1", "=1.0.0"), true);
        dueSame(all, all.replace(">=1.0.0 <1.0.1", "=1.0.1"), false);
        dueSame(all, all.replace("run b", "build b"), false);
        dueSame(all, all.replace("any b *|c *; any d *|e *;", "any d *|e *; any b *|c *;"), false);
        dueSame(all, all.replace("any b *|c *;", "any C *|B *;"), true);
        dueSame(all, all.replace("feature f:;", "feature f:; feature F:;"), true);
        dueSame(all, all.replace("feature f:;", "feature f:; feature h:;"), false);
        dueSame(all, all.replace("G: f, f;", "G: f; feature g: f;"), true);
        dueSame(all, all.replace("G: f, f;", "G: f;"), false);
        dueSame(all, all.replace("G: f", "h: f"), false);
        dueSame(all, all.replace("script s t; script s u;", "script S U; script s T;"), true);
        dueSame(all, all.replace("script s u;", "script s t;"), false);
        dueSame(all, all.replace("file q 1; file q 2;", "file q 2; file q 1;"), true);
        dueSame(all, all.replace("file q 1; file q 2;", "file q 2; file q 2;"), false);
        dueSame(all, all.replace("p 1.0.0", "p 1.0.1"), false);
        dueSame(all, all.replace("default f;", ""), false);
        dueSame(all, all + "keeper k;", false);
        due("above", x.same(0, 2) ? 1 : 0, 0);
        due("below", x.same(-1, 0) ? 1 : 0, 0);
        due("none both", x.same(-1, -1) ? 1 : 0, 0);
        begin("10 same: features alone differ");
        dueSame("package a 1.0.0; feature f:;", "package a 1.0.0; feature g:;", false);
        dueSame("package a 1.0.0; feature f:;", "package a 1.0.0;", false);
        dueSame("package a 1.0.0; feature f:;", "package a 1.0.0; feature F:;", true);
    }

    private static void differAndChange() {
        begin("11 differ, 12 change");
        dueRead("package a 1.0.0; need run b *; need run c *; keeper k, m; feature f:;", 0);
        dueRead("package z 2.0.0; need run B *; need run c >1.0.0; keeper l, M;", 1);
        due("before any differ", x.change(0, 0), -1);
        due("differ(0, 1)", x.differ(0, 1), 4);
        dueChanges(0, 1, 0, 2, 1, 1, 1, 2);
        due("a package that is none", x.differ(0, 2), -1);
        due("a package that is none", x.differ(-1, 0), -1);
        dueChanges(0, 1, 0, 2, 1, 1, 1, 2);
        due("same tells nothing", x.same(0, 0) ? 1 : 0, 1);
        due("same tells nothing", x.same(1, 1) ? 1 : 0, 1);
        dueChanges(0, 1, 0, 2, 1, 1, 1, 2);
        due("differ(1, 0)", x.differ(1, 0), 4);
        dueChanges(0, 1, 0, 2, 1, 1, 1, 2);
        due("what 2", x.change(0, 2), -1);
        due("what -1", x.change(0, -1), -1);
        dueRead("package e 1.0.0;", 2);
        due("all of one", x.differ(0, 2), 4);
        dueChanges(0, 0, 0, 1, 0, 2, 0, 3);
        due("all of the other", x.differ(2, 0), 4);
        dueChanges(1, 0, 1, 1, 1, 2, 1, 3);
        due("of one and the same", x.differ(1, 1), 0);
        dueChanges();
    }

    private static void likeOnesOneForOne() {
        begin("11 differ: like ones one for one");
        dueRow("file f 1; file F 2; file f 1; file f 3; script s t; script s u; feature g: x, x, y;", 0);
        dueRow("file f 2; file f 1; script s U; feature G: x; feature h: y;", 1);
        due("differ(0, 1)", x.differ(0, 1), 6);
        dueChanges(0, 1, 0, 2, 0, 3, 0, 7, 0, 8, 1, 1);
        due("differ(1, 0)", x.differ(1, 0), 6);
        dueChanges(0, 1, 1, 1, 1, 2, 1, 3, 1, 7, 1, 8);
        dueRow("any b *|c *; any d *|e *;", 2);
        dueRow("any d *|e *; any b *|c >0.0.0;", 3);
        due("SETS count", x.differ(2, 3), 8);
        String keepers = "";
        for (char a = 'a'; a < 'k'; a++) {
            for (char b = 'a'; b < 'u'; b++) {
                keepers += (keepers.isEmpty() ? "" : ",") + a + b;
            }
        }
        dueRow("keeper " + keepers + ";", 4);
        dueRow("licence " + keepers + ";", 5);
        due("400 rows", x.differ(4, 5), 400);
        due("the last one", x.change(399, 0), 1);
        due("the last one", x.change(399, 1), 199);
        due("none behind", x.change(400, 0), -1);
    }

    private static void print() {
        begin("13 print");
        duePrint("package a 1.2.3;", "package a 1.2.3;");
        duePrint(" package\nA_b  999999.0.10 ; ", "package A_b 999999.0.10;");
        duePrint("package a 1.0.0;file f 42;script s T;keeper k,Ab;licence l;platform p;feature d:;default d;"
                + "feature F:d,B;any y*|X=1.0.0;provide p 1.0.0;replace r*;conflict c*;need peer n*;"
                + "need optional b*;need test n*;need build n*;need run n*;",
                "package a 1.0.0; need run n *; need build n *; need test n *; need optional b *; need peer n *;"
                + " conflict c *; replace r *; provide p 1.0.0; any X = 1.0.0 | y *; feature F: B, d; default d;"
                + " platform p; licence l; keeper Ab, k; script s T; file f 42; feature d:;");
        duePrint("package a 1.0.0; any c *|d *|b *; any f *|e *;",
                "package a 1.0.0; any b * | c * | d *; any e * | f *;");
        duePrint("package a 1.0.0; keeper k; keeper K, a; file f 0; file F 10; need run b *; need run B <1.0.0;",
                "package a 1.0.0; need run b < 1.0.0; keeper a, k; file f 0; file F 10;");
        due("below", x.print(-1), -1);
        due("above", x.print(40), -1);
        duePrinted("package a 1.0.0; need run b < 1.0.0; keeper a, k; file f 0; file F 10;");
    }

    private static void printedRanges() {
        begin("13 print: RANGES");
        dueRange("*", "*");
        dueRange(">=0.0.0", "*");
        dueRange("<=999999.999999.999999", "*");
        dueRange("=0.0.0", "= 0.0.0");
        dueRange("<=0.0.0", "= 0.0.0");
        dueRange("<0.0.1", "= 0.0.0");
        dueRange("=1.2.3", "= 1.2.3");
        dueRange(">=999999.999999.999999", "= 999999.999999.999999");
        dueRange(">1.2.3 <1.2.5", "= 1.2.4");
        dueRange(">=1.2.3", ">= 1.2.3");
        dueRange(">1.2.3", ">= 1.2.4");
        dueRange(">1.2.999999", ">= 1.3.0");
        dueRange(">1.999999.999999", ">= 2.0.0");
        dueRange("<1.2.3", "< 1.2.3");
        dueRange("<=1.2.999999", "< 1.3.0");
        dueRange("<=9.9.9", "< 9.9.10");
        dueRange("<2.0.0 >=1.0.0", ">= 1.0.0 < 2.0.0");
        dueRange("<0.0.0", "< 0.0.0");
        dueRange(">999999.999999.999999", "< 0.0.0");
        dueRange(">2.0.0 <1.0.0", "< 0.0.0");
    }

    private static void printedFeatures() {
        begin("13 print: features");
        duePrint("package a 1.0.0; feature Z:; feature b:; feature z:; feature B: c; feature A:; feature a:;",
                "package a 1.0.0; feature B: c; feature Z:; feature A:;");
        duePrint("package a 1.0.0; feature F_f: z; feature f-F: A; feature F.F: b;",
                "package a 1.0.0; feature f-F: A, b, z;");
        duePrint("package a 1.0.0; feature f: x; feature g: x; feature e:;",
                "package a 1.0.0; feature f: x; feature g: x; feature e:;");

        begin("13 print: more than 2000 signs");
        String text = "package a 1.0.0;any a>9.9.9";
        String due = "package a 1.0.0; any a >= 9.9.10";
        for (int i = 1; i < 200; i++) {
            text += "|a>9.9.9";
            due += " | a >= 9.9.10";
        }
        x.typeText(text + ";");
        due("read()", x.read(), 0);
        due("print(0)", x.print(0), due.length() + 1);
        duePrinted(due + ";");
    }

    private static void fold() {
        begin("14 fold");
        dueFold("A-__b", "a-b");
        dueFold(" \n Abc.9 \n", "abc-9");
        dueFold("ZzAa09", "zzaa09");
        dueFold("a.b_c-d", "a-b-c-d");
        dueFold("a..........________b", "a-b");
        dueFold("abcdefghijklmnopqrst", "abcdefghijklmnopqrst");
        String before = "abcdefghijklmnopqrst";
        dueNoFold("", -1, before);
        dueNoFold("   ", -4, before);
        dueNoFold("a-", -1, before);
        dueNoFold(" a. ", -2, before);
        dueNoFold("9a", -1, before);
        dueNoFold("-a", -1, before);
        dueNoFold("abcdefghijklmnopqrstu", -1, before);
        dueNoFold("a b", -3, before);
        dueNoFold("a ;", -3, before);
        dueNoFold("a*", -2, before);
        dueFold("x", "x");
        due("they are used up", x.fold(), -1);
        x.typeText("a b");
        due("what can't stand is used up", x.fold(), -3);
        due("what can't stand is used up", x.fold(), -1);
    }

    private static void at() {
        begin("15 at");
        dueFold("Ab", "ab");
        due("below", x.at(-1), -1);
        due("first", x.at(0), 'a');
        due("last", x.at(1), 'b');
        due("behind", x.at(2), -1);
        due("far behind", x.at(Integer.MAX_VALUE), -1);
        due("far below", x.at(Integer.MIN_VALUE), -1);
        duePrint("package long-name 1.0.0;", "package long-name 1.0.0;");
        dueFold("c", "c");
        due("what was printed before is gone", x.at(1), -1);
        dueRead("package a 1.0.0", -16);
        due("reading leaves it", x.at(0), 'c');
    }
}
