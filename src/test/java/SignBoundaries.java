/**
 * The section "Terms" from SIGNS to RANGE: each sentence that names a boundary case, in the document's
 * words. In a text, @ marks the place that can't stand.
 */
public final class SignBoundaries extends Checks {
    private static final String TWENTY = "abcdefghijklmnopqrst";
    private static final String TOP = "999999.999999.999999";

    /** Texts that stand if % is a NAME. */
    private static final String[] WITH_NAME = {"package % 1.0.0;", HEAD + "need run % *;", HEAD + "need build % *;",
        HEAD + "need test % *;", HEAD + "need optional % *;", HEAD + "need peer % *;", HEAD + "conflict % *;",
        HEAD + "replace % *;", HEAD + "provide % 1.0.0;", HEAD + "any % *|b *;", HEAD + "any b *|% *;",
        HEAD + "any b *|c *|% *;", HEAD + "feature %:;", HEAD + "feature % : b;", HEAD + "feature f: %;",
        HEAD + "feature f: b, %;", HEAD + "feature b:; feature " + TWENTY + ":; default %;",
        HEAD + "feature b:; feature " + TWENTY + ":; default b, %;", HEAD + "platform %;", HEAD + "platform b,%;",
        HEAD + "licence %;", HEAD + "licence b, %;", HEAD + "keeper %;", HEAD + "keeper b ,%;",
        HEAD + "script % b;", HEAD + "script b %;", HEAD + "file % 1;"};

    /** Texts that stand if % is a VERSION. */
    private static final String[] WITH_VERSION = {"package a %;", HEAD + "need run b =%;", HEAD + "need peer b <= %;",
        HEAD + "need test b <9.0.0 >%;", HEAD + "conflict b >=%<9.0.0;", HEAD + "replace b <%;",
        HEAD + "provide p %;", HEAD + "any b =%|c *;", HEAD + "any b *|c > %;"};

    /** Texts that stand if % is a NUMBER. */
    private static final String[] WITH_NUMBER = {"package a %.0.0;", "package a 0.%.0;", "package a 0.0.%;",
        HEAD + "need run b >=%.0.0;", HEAD + "need run b <1.0.0 >= 0.0.%;", HEAD + "provide p 0.%.0;",
        HEAD + "any b =%.0.0|c *;", HEAD + "any b *|c <0.%.0;", HEAD + "file f %;"};

    public static void main(String[] args) {
        atMost2000();
        usedUp();
        notUsedUp();
        placeFrom0();
        endTooEarly();
        nothingIsLeftBehindTheEnd();
        blanksBetween();
        noOtherBlanks();
        nameSigns();
        nameFirstAndLast();
        nameAtMost20();
        nameInEachPlace();
        foldedNames();
        wordGoesOn();
        wordsAreSmall();
        numbers();
        versionOfThree();
        blanksAboutDots();
        versionsInTheirOrder();
        oneOrTwoBounds();
        blankBehindBound();
        boundsKeepAll();
        whatFollowsTheLastBound();
        behindABoundsSign();
        finish();
    }

    private static void atMost2000() {
        begin("SIGNS are collected, at most 2000 (more are dropped)");
        dueFold(" ".repeat(1999) + "a", "a");
        afresh();
        dueNoFold(" ".repeat(2000) + "a", -2001, "");
        afresh();
        x.typeText(" ".repeat(1992) + "    ");
        x.type(0x6162636465666768L);
        due("four of eight are dropped", x.fold(), 4);
        duePrinted("abcd");
        afresh();
        dueRead(HEAD + " ".repeat(1984), 0);
        afresh();
        dueRead(HEAD + " ".repeat(1984) + "x", 0);
        afresh();
        dueRead(HEAD + " ".repeat(1983) + "x", -2000);
        afresh();
        dueRead("package a 1.0.0" + " ".repeat(1984) + ";", 0);
        afresh();
        dueRead("package a 1.0.0" + " ".repeat(1985) + ";", -2001);
        afresh();
        dueRead("-".repeat(3000), -1);
        dueRead(HEAD, 0);
        afresh();
        for (int n = 0; n < 240; n++) {
            x.type(0L);
        }
        dueFold(" ".repeat(1999) + "b", "b");
    }

    private static void usedUp() {
        begin("read() and fold() use them up, in any case");
        String[] texts = {HEAD, "x", "package a 1.0.0", HEAD + "default d;",
            HEAD + "keeper a" + ",a".repeat(200) + ";"};
        int[] wants = {0, -1, -16, -25, -17};
        for (int n = 0; n < texts.length; n++) {
            afresh();
            dueRead(texts[n], wants[n]);
            due("read() after " + texts[n], x.read(), -1);
            dueRead(texts[n], wants[n] == 0 ? 1 : wants[n]);
            due("fold() after " + texts[n], x.fold(), -1);
        }
        afresh();
        for (int n = 0; n < 40; n++) {
            dueRead(HEAD, n);
        }
        dueRead(HEAD, -10000);
        due("read() after -10000", x.read(), -1);
        afresh();
        dueFold("ab", "ab");
        due("fold() after fold()", x.fold(), -1);
        dueFold("ab", "ab");
        due("read() after fold()", x.read(), -1);
        dueNoFold("a b", -3, "ab");
        due("fold() after a refused fold()", x.fold(), -1);
        dueNoFold("a-", -1, "ab");
        dueRead(HEAD, 0);
    }

    private static void notUsedUp() {
        begin("read() and fold() use them up: no other call does");
        dueRead(HEAD + "keeper k;", 0);
        x.typeText("package ");
        x.rows(0);
        x.row(0, 0, 0);
        x.letter(0, 0, 0, 0);
        x.low(0, 0);
        x.high(0, 0);
        x.check(0);
        x.typeText("a 1.0");
        x.same(0, 0);
        x.differ(0, 0);
        x.change(0, 0);
        x.print(0);
        x.at(0);
        x.print(1);
        x.differ(0, 1);
        x.typeText(".0;");
        due("read()", x.read(), 1);
    }

    private static void placeFrom0() {
        begin("What CAN'T STAND is told as - 1 less its place (from 0): the word or sign begins there");
        cantStand("@x");
        cantStand("@;");
        cantStand(" @x");
        cantStand("\n\n @packages a 1.0.0;");
        cantStand("package @;");
        cantStand("package a @b 1.0.0;");
        cantStand("package a 1.0.0 @x;");
        cantStand(HEAD + "  @unknown-word a;");
        cantStand(HEAD + "need @walk b *;");
        cantStand(HEAD + "keeper @abc_def_;");
        cantStand(HEAD + "keeper k , @;");
        cantStand(HEAD + "file f @0123;");
        cantStand(HEAD + "need run b >= @1234567.0.0;");
        cantStand(HEAD + " ".repeat(1983) + "@x");
    }

    private static void endTooEarly() {
        begin("or how many signs there are if they end too early");
        cantStand("@");
        cantStand("   @");
        cantStand("\n@");
        cantStand(" ".repeat(2000) + "@");
        cantStand("package a 1.0.0" + " ".repeat(1985) + "@");
        String[] parts = wholeText();
        StringBuilder text = new StringBuilder();
        for (String part : parts) {
            text.append(part);
            for (String blanks : new String[] {"", " ", "\n  "}) {
                if (part.equals(";")) {
                    stands(text + blanks);
                } else {
                    cantStand(text + blanks + "@");
                }
            }
            text.append(" ");
        }
        for (String half : new String[] {"1", "1.", "1.2", "1.2."}) {
            for (String with : WITH_VERSION) {
                String begun = with.substring(0, with.indexOf('%')) + half;
                cantStand(begun + "@");
                cantStand(begun + " @");
                cantStand(begun + "\n \n@");
            }
        }
    }

    private static void nothingIsLeftBehindTheEnd() {
        begin("read() and fold() use them up: signs of a longer text before don't count");
        String whole = String.join(" ", wholeText());
        for (int length = 0; length <= whole.length(); length++) {
            String cut = whole.substring(0, length);
            afresh();
            x.typeText(cut);
            int alone = x.read();
            afresh();
            dueRead(whole, 0);
            dueRead(cut, alone == 0 ? 1 : alone);
        }
        afresh();
        dueRead("package abcdefghijkl 1.0.0;", 0);
        dueFold("package", "package");
        dueNoFold("package a", -9, "package");
        dueNoFold("    ", -5, "package");
        dueRead("package a 1.0.12345;", 1);
        dueRead("package a 1.0.1", -16);
    }

    /** All KINDS; each part is a word, a NAME, a VERSION, a NUMBER or a sign. */
    private static String[] wholeText() {
        return ("package a 1.0.0 ; need run b >= 1.0.0 < 2.0.0 ; need build b * ; need test b = 1.0.0 ; "
                + "need optional b > 1.0.0 ; need peer b <= 1.0.0 > 0.1.0 ; conflict c * ; replace r * ; "
                + "provide p 1.0.0 ; any a * | b > 1.0.0 | c < 1.0.0 < 2.0.0 ; feature f : ; feature g : f , b ; "
                + "default f , g ; platform p ; licence l , m ; keeper k ; script s t ; file q 7 ;").split(" ");
    }

    private static void blanksBetween() {
        begin("BLANKS (32, 10) may be between words and signs");
        String[] parts = wholeText();
        String wide = String.join(" ", parts);
        StringBuilder narrow = new StringBuilder(parts[0]);
        for (int n = 1; n < parts.length; n++) {
            boolean wordsMeet = Character.isLetterOrDigit(parts[n].charAt(0))
                    && Character.isLetterOrDigit(narrow.charAt(narrow.length() - 1));
            narrow.append(wordsMeet ? "\n" : "").append(parts[n]);
        }
        dueSame(wide, narrow.toString(), true);
        dueSame(wide, String.join("\n", parts), true);
        dueSame(wide, "\n " + String.join("  \n", parts) + " \n", true);
    }

    private static void noOtherBlanks() {
        begin("BLANKS (32, 10): no other sign is one");
        for (char sign = 1; sign < 256; sign++) {
            boolean blank = sign == 32 || sign == 10;
            boolean goesOn = isOfName(sign);
            afresh();
            dueRead(HEAD + sign + "keeper k;", blank ? 0 : -17);
            afresh();
            dueRead("package a" + sign + "1.0.0;", blank ? 0 : goesOn ? -16 : -10);
            afresh();
            dueRead("package a 1.0.0" + sign + ";", blank ? 0 : sign == ';' ? -17 : isDigit(sign) ? -15 : -16);
        }
    }

    private static boolean isLetter(char sign) {
        return sign >= 'a' && sign <= 'z' || sign >= 'A' && sign <= 'Z';
    }

    private static boolean isDigit(char sign) {
        return sign >= '0' && sign <= '9';
    }

    private static boolean isBar(char sign) {
        return sign == '-' || sign == '_' || sign == '.';
    }

    private static boolean isOfName(char sign) {
        return isLetter(sign) || isDigit(sign) || isBar(sign);
    }

    private static boolean isBlank(char sign) {
        return sign == 32 || sign == 10;
    }

    private static void nameSigns() {
        begin("A NAME: a letter, letters, digits, - _ .");
        for (char sign = 1; sign < 256; sign++) {
            afresh();
            x.typeText("x" + sign + "y");
            due("fold() of x, sign " + (int) sign + ", y", x.fold(), isOfName(sign) ? 3 : isBlank(sign) ? -3 : -2);
            if (isOfName(sign)) {
                duePrinted("x" + (isBar(sign) ? '-' : Character.toLowerCase(sign)) + "y");
            }
        }
    }

    private static void nameFirstAndLast() {
        begin("A NAME: a letter .. , at the end a letter or digit");
        for (char sign = 1; sign < 256; sign++) {
            afresh();
            x.typeText("" + sign);
            due("fold() of sign " + (int) sign, x.fold(), isLetter(sign) ? 1 : isBlank(sign) ? -2 : -1);
            x.typeText(sign + "x");
            due("fold() of sign " + (int) sign + ", x", x.fold(), isLetter(sign) ? 2 : isBlank(sign) ? 1 : -1);
            boolean ends = isLetter(sign) || isDigit(sign);
            x.typeText("x" + sign);
            due("fold() of x, sign " + (int) sign, x.fold(), ends ? 2 : isBar(sign) ? -1 : isBlank(sign) ? 1 : -2);
            x.typeText("x" + sign + " ");
            due("fold() of x, sign " + (int) sign + ", blank", x.fold(),
                    ends ? 2 : isBar(sign) ? -1 : isBlank(sign) ? 1 : -2);
        }
    }

    private static void nameAtMost20() {
        begin("A NAME: .. at most 20");
        for (int length = 1; length < 45; length++) {
            x.typeText("n".repeat(length));
            due("fold() of " + length + " letters", x.fold(), length <= 20 ? length : -1);
        }
        afresh();
        dueFold("a" + "-".repeat(18) + "b", "a-b");
        dueNoFold("a" + "-".repeat(19) + "b", -1, "a-b");
        dueNoFold(TWENTY + "-", -1, "a-b");
        dueNoFold(TWENTY + ".u", -1, "a-b");
        dueNoFold("  " + TWENTY + "u", -3, "a-b");
        dueFold("  " + TWENTY + "  ", TWENTY);
        afresh();
        dueNoFold("n".repeat(2000), -1, "");
        afresh();
        dueNoFold(" " + "n".repeat(2000), -2, "");
    }

    private static void nameInEachPlace() {
        begin("A NAME: .. at most 20, at the end a letter or digit: in each place of a text");
        for (String with : WITH_NAME) {
            stands(with.replace("%", "b"));
            stands(with.replace("%", TWENTY));
            for (String bad : new String[] {TWENTY + "u", "b-", "b_", "b.", TWENTY + "-", "9", "9b", "-b", "_b", ".b",
                "*", "\"b\"", "\u00e9"}) {
                cantStand(with.replace("%", "@" + bad));
            }
        }
    }

    private static void foldedNames() {
        begin("FOLDED: letters small, each row of - _ . one -");
        dueFold("ABCDEFGHIJKLMNOPQRST", TWENTY);
        dueFold("UVWXYZ", "uvwxyz");
        dueFold("uvwxyz0123456789", "uvwxyz0123456789");
        dueFold("a-b", "a-b");
        dueFold("a_b", "a-b");
        dueFold("a.b", "a-b");
        dueFold("a--b", "a-b");
        dueFold("a-_.b", "a-b");
        dueFold("a..b__c--d", "a-b-c-d");
        dueFold("a.0_1-2", "a-0-1-2");
    }

    private static void wordGoesOn() {
        begin("A word that begins with a letter goes on as long as such signs do");
        String[] text = {"@package", " a 1.0.0; ", "@need", " ", "@run", " b *; ", "@need", " ", "@build",
            " b *; need ", "@test", " b *; need ", "@optional", " b *; need ", "@peer", " b *; ", "@conflict", " c *; ",
            "@replace", " r *; ", "@provide", " p 1.0.0; ", "@any", " b *|c *; ", "@feature", " f:; ", "@default",
            " f; ", "@platform", " p; ", "@licence", " l; ", "@keeper", " k; ", "@script", " s t; ", "@file", " f 1;"};
        stands(String.join("", text).replace("@", ""));
        for (int n = 0; n < text.length; n++) {
            if (text[n].charAt(0) == '@') {
                for (String more : new String[] {"s", "S", "0", "9", "-", "_", ".", "-a", ".9"}) {
                    cantStand(withWord(text, n, text[n] + more));
                }
                cantStand(withWord(text, n, text[n].substring(0, text[n].length() - 1)));
            }
        }
        cantStand("package a1.0.0@;");
        cantStand("package a-1.0.0@;");
        rowsCantStand("@needrun b *;");
        rowsCantStand("need @runb *;");
        rowsCantStand("script st@;");
        rowsCantStand("file f1@;");
    }

    /** The text with one other word; the mark stays at that one. */
    private static String withWord(String[] text, int n, String word) {
        StringBuilder whole = new StringBuilder();
        for (int k = 0; k < text.length; k++) {
            whole.append(k == n ? word : text[k].replace("@", ""));
        }
        return whole.toString();
    }

    private static void wordsAreSmall() {
        begin("words of the text itself are in small letters");
        cantStand("@Package a 1.0.0;");
        cantStand("@PACKAGE a 1.0.0;");
        cantStand("@packagE a 1.0.0;");
        for (String row : new String[] {"@Need run b *;", "need @Run b *;", "need @rUn b *;", "need @Build b *;",
            "need @tesT b *;", "need @OPTIONAL b *;", "need @Peer b *;", "@Conflict b *;", "@Replace b *;",
            "@Provide b 1.0.0;", "@Any b *|c *;", "@anY b *|c *;", "@Feature f:;", "feature f:; @Default f;",
            "@Platform p;", "@Licence l;", "@Keeper k;", "@Script s t;", "@File f 1;"}) {
            rowsCantStand(row);
        }
        stands("package package 1.0.0; need run need *; keeper Keeper, keeper; script any file;");
    }

    private static void numbers() {
        begin("A NUMBER: digits, no 0 in front but 0 alone, at most 6 (else it can't stand)");
        String huge = "1" + "0".repeat(100);
        for (String with : WITH_NUMBER) {
            for (String good : new String[] {"0", "1", "9", "10", "99999", "100000", "999999"}) {
                stands(with.replace("%", good));
            }
            for (String bad : new String[] {"00", "01", "09", "000000", "099999", "0999999", "1000000", "9999999",
                "4294967296", "4294967297", "18446744073709551616", huge, "x", "-1", "+1", "*", ":", "/", ""}) {
                cantStand(with.replace("%", "@" + bad));
            }
        }
        rowsStand("file f 999999; file g 0;");
        dueVersions(0, 0, 999999, -1);
        dueVersions(0, 1, 0, -1);
        rowsCantStand("file f 1@.0;");
        rowsCantStand("file f 1 @2;");
        rowsCantStand("file f 12@a;");
    }

    private static void versionOfThree() {
        begin("A VERSION: NUMBER . NUMBER . NUMBER");
        String[] bad = {"1@", "1.2@", "1.2.3@.4", "1.@", "1.2.@", "@.1.2", "1.@.2", "1.2.@.3", "1@:2.3", "1@,2.3",
            "1@-2.3", "1.@x.3", "1.2.@x", "1.2.3@x", "1.2.3@-1", "1.2.3 @4", "@01.2.3", "1.@02.3", "1.2.@03",
            "@1000000.2.3", "1.@1000000.3", "1.2.@1000000", "@v1.2.3", "@", "1@*", "1.@*", "1.2@_3"};
        for (String with : WITH_VERSION) {
            stands(with.replace("%", "1.2.3"));
            stands(with.replace("%", "0.0.0"));
            stands(with.replace("%", TOP));
            for (String version : bad) {
                cantStand(with.replace("%", version));
            }
        }
    }

    private static void blanksAboutDots() {
        begin("no blanks about . , which are signs of their own: what stands behind such a blank can't stand");
        String[] bad = {"1 @.2.3", "1. @2.3", "1.2 @.3", "1.2. @3", "1\n@.2.3", "1.\n@2.3", "1.2\n@.3", "1.2.\n@3",
            "1  \n @.2.3", "1.2.  \n @3", "1 @. 2 . 3", "1. @x", "1. @.2", "1 @2.3", "1.2. @", "1. @", "1.2 @", "1 @",
            "1.2.3 @.", "1. @02.3", "1.2. @1000000"};
        for (String with : WITH_VERSION) {
            for (String version : bad) {
                cantStand(with.replace("%", version));
            }
        }
    }

    private static void versionsInTheirOrder() {
        begin("A VERSION: .. in their order");
        String[] versions = {"0.0.0", "0.0.1", "0.0.2", "0.0.10", "0.0.999999", "0.1.0", "0.2.0", "0.10.0",
            "0.999999.999999", "1.0.0", "1.0.1", "1.1.0", "2.0.0", "10.0.0", "999999.0.0", TOP};
        for (int a = 0; a < versions.length; a++) {
            for (int b = 0; b < versions.length; b++) {
                rowsStand("need run b >=" + versions[a] + " <" + versions[b] + ";");
                due(versions[a] + " before " + versions[b], x.row(0, 0, 4), a < b ? 0 : 2);
            }
        }
    }

    private static void oneOrTwoBounds() {
        begin("A RANGE: * ; or one or two BOUNDS: = >= <= > < and a VERSION");
        for (String row : new String[] {"need run b ", "need build b ", "need test b ", "need optional b ",
            "need peer b ", "conflict b ", "replace b ", "any c *|b "}) {
            for (String good : new String[] {"*", "=1.0.0", ">=1.0.0", "<=1.0.0", ">1.0.0", "<1.0.0", "=1.0.0=1.0.0",
                ">=1.0.0<2.0.0", "<2.0.0>1.0.0", "<=1.0.0 <=2.0.0"}) {
                rowsStand(row + good + ";");
            }
            for (String bad : new String[] {"@", "@1.0.0", "@~1.0.0", "@^1.0.0", "@!=1.0.0", "@x", "*@*", "* @*",
                "*@1.0.0", "* @<1.0.0", "*@=1.0.0", "<1.0.0@*", ">1.0.0 @*", "<1.0.0<2.0.0@<3.0.0",
                "=1.0.0 =1.0.0 @=1.0.0", ">1.0.0 <2.0.0 @*", "=1.0.0 @2.0.0", "=1.0.0@,<2.0.0"}) {
                rowsCantStand(row + bad + ";");
            }
        }
    }

    private static void blankBehindBound() {
        begin("BOUNDS .. and a VERSION (a blank may be between)");
        for (String bound : new String[] {"=", ">=", "<=", ">", "<"}) {
            rowsStand("need run b" + bound + "1.0.0;");
            rowsStand("need run b " + bound + " 1.0.0;");
            rowsStand("need run b\n" + bound + "\n1.0.0\n;");
            rowsStand("need run b " + bound + " 1.0.0 " + bound + " 1.0.0 ;");
        }
        rowsCantStand("need run b > @=1.0.0;");
        rowsCantStand("need run b <\n@=1.0.0;");
        rowsCantStand("need run b >@>1.0.0;");
        rowsCantStand("need run b <@>1.0.0;");
        rowsCantStand("need run b =@=1.0.0;");
        rowsCantStand("need run b =@<1.0.0;");
        rowsCantStand("need run b =@>1.0.0;");
        rowsCantStand("need run b >=@=1.0.0;");
        rowsCantStand("need run b <=@>1.0.0;");
    }

    private static void boundsKeepAll() {
        begin("the versions that keep all (.. if there is none, from 0.0.0 to 0.0.0)");
        String[] bounds = {"=", ">=", "<=", ">", "<"};
        String[] versions = {"0.0.0", "0.0.1", "1.0.0", "1.0.1", "999999.999999.999998", TOP};
        long[] values = {0, 1, 1000000000000L, 1000000000001L, END - 2, END - 1};
        for (int a = 0; a < bounds.length; a++) {
            for (int v = 0; v < versions.length; v++) {
                rowsStand("need run b " + bounds[a] + versions[v] + ";");
                dueKept(least(a, values[v]), end(a, values[v]));
                for (int b = 0; b < bounds.length; b++) {
                    for (int w = 0; w < versions.length; w++) {
                        rowsStand("need run b " + bounds[a] + versions[v] + bounds[b] + versions[w] + ";");
                        dueKept(Math.max(least(a, values[v]), least(b, values[w])),
                                Math.min(end(a, values[v]), end(b, values[w])));
                    }
                }
            }
        }
        rowsStand("need run b *;");
        dueKept(0, END);
    }

    private static long least(int bound, long version) {
        return new long[] {version, version, 0, version + 1, 0}[bound];
    }

    private static long end(int bound, long version) {
        return new long[] {version + 1, END, version + 1, END, version}[bound];
    }

    private static void dueKept(long least, long end) {
        boolean none = least >= end;
        dueVersions(0, 0, none ? 0 : least, none ? 0 : end);
        due("WHY of the row", x.row(0, 0, 4), none ? 2 : 0);
    }

    private static void whatFollowsTheLastBound() {
        begin("What follows the last BOUND that can be one begins what comes next");
        rowsCantStand("need run b <1.0.0 <2.0.0 @<3.0.0;");
        rowsCantStand("need run b <1.0.0 <2.0.0 @<;");
        rowsCantStand("need run b <1.0.0 <2.0.0 @=");
        rowsCantStand("need run b * @>=1.0.0;");
        rowsCantStand("need run b <1.0.0 @| c *;");
        rowsCantStand("need run b <1.0.0 @, c *;");
        rowsCantStand("need run b <1.0.0 @need run c *;");
        rowsCantStand("any b <1.0.0 <2.0.0 @<3.0.0|c *;");
        rowsCantStand("any b *|c >1.0.0 <2.0.0 @>1.0.0;");
        rowsStand("any b <1.0.0 <2.0.0|c =1.0.0|d>1.0.0 <2.0.0;");
        due("rows", x.rows(0), 3);
    }

    private static void behindABoundsSign() {
        begin("(behind a BOUND's sign a VERSION must come)");
        for (String bound : new String[] {"=", ">=", "<=", ">", "<"}) {
            for (String with : new String[] {"need run b ", "need run b <1.0.0 ", "any b ", "any b *|c >1.0.0"}) {
                rowsCantStand(with + bound + "@;");
                rowsCantStand(with + bound + " @;");
                rowsCantStand(with + bound + " @|");
                rowsCantStand(with + bound + "@*;");
                rowsCantStand(with + bound + "@x;");
                rowsCantStand(with + bound + "@");
                rowsCantStand(with + bound + "  @");
            }
        }
    }
}
