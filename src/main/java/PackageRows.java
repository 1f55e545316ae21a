/**
 * Texts of packages, read to rows in a normal form, checked, printed and compared.
 * The words in capitals are those of the document.
 */
public final class PackageRows {
    public static final int NONE = -1;

    private static final int TOO_MANY_PACKAGES = -10000;
    private static final int MOST_PACKAGES = 40;
    private static final int MOST_SIGNS = 2000;
    private static final int MOST_ROWS = 200;
    /** The shortest feature of a text, "feature a:;", has 11 signs: there can't be more. */
    private static final int MOST_FEATURES = MOST_SIGNS / 11;
    /** Printed, a row has at most 10 signs more than in its text (blanks, >= for >, a carry), a feature 1. */
    private static final int MOST_PRINTED = MOST_SIGNS + 10 * MOST_ROWS + MOST_FEATURES;
    private static final int MOST_LETTERS = 20;
    private static final int MOST_DIGITS = 6;
    private static final int MOST_BOUNDS = 2;
    private static final int NUMBERS_OF_VERSION = 3;
    private static final long NUMBERS = 1000000L;
    private static final long NO_END = NUMBERS * NUMBERS * NUMBERS;

    private final Reader reader;
    private final Scan scan;
    private final Pack[] packs;
    private int packCount;
    private final Printer printer;
    private final Pairing pairing;
    private final int[] told;
    private int toldOfFirst;
    private int toldCount;

    public PackageRows() {
        reader = new Reader();
        scan = reader.scan;
        packs = new Pack[MOST_PACKAGES];
        printer = new Printer();
        pairing = new Pairing();
        told = new int[2 * MOST_ROWS];
    }

    public void type(long signs) {
        for (int shift = 56; shift >= 0; shift -= 8) {
            scan.collect((char) (signs >>> shift & 255));
        }
    }

    public int read() {
        scan.begin();
        boolean stands = reader.takeText();
        scan.useUp();
        if (!stands) {
            return scan.refusal();
        }
        if (packCount >= packs.length) {
            return TOO_MANY_PACKAGES;
        }
        packs[packCount] = reader.makePack();
        packCount++;
        return packCount - 1;
    }

    public int rows(int p) {
        Pack pack = packOf(p);
        return pack == null ? NONE : pack.rows.length;
    }

    public int row(int p, int i, int what) {
        Row row = rowOf(p, i);
        if (row == null) {
            return NONE;
        }
        switch (what) {
            case 0:
                return row.kind;
            case 1:
                return row.set;
            case 2:
                return row.name.written.length;
            case 3:
                return row.name.foldedLength;
            case 4:
                return row.why;
            default:
                return NONE;
        }
    }

    public int letter(int p, int i, int what, int k) {
        Row row = rowOf(p, i);
        if (row == null) {
            return NONE;
        }
        switch (what) {
            case 0:
                return row.name.writtenAt(k);
            case 1:
                return row.name.foldedAt(k);
            case 2:
                return row.other == null ? NONE : row.other.writtenAt(k);
            default:
                return NONE;
        }
    }

    public long low(int p, int i) {
        Row row = rowOf(p, i);
        return row == null ? NONE : row.least;
    }

    public long high(int p, int i) {
        Row row = rowOf(p, i);
        return row == null ? NONE : row.end;
    }

    public int check(int p) {
        Pack pack = packOf(p);
        if (pack == null) {
            return NONE;
        }
        for (int i = 0; i < pack.rows.length; i++) {
            if (pack.rows[i].why != 0) {
                return i + 1;
            }
        }
        return 0;
    }

    public boolean same(int a, int b) {
        Pack first = packOf(a);
        Pack second = packOf(b);
        if (first == null || second == null || !first.headsAlike(second)) {
            return false;
        }
        return pairing.countAlone(first, second) == 0;
    }

    public int differ(int a, int b) {
        Pack first = packOf(a);
        Pack second = packOf(b);
        if (first == null || second == null) {
            return NONE;
        }
        pairing.countAlone(first, second);
        toldCount = 0;
        tellAlone(pairing.firstPaired, first.rows.length);
        toldOfFirst = toldCount;
        tellAlone(pairing.secondPaired, second.rows.length);
        return toldCount;
    }

    public int change(int k, int what) {
        if (k < 0 || k >= toldCount) {
            return NONE;
        }
        switch (what) {
            case 0:
                return k < toldOfFirst ? 0 : 1;
            case 1:
                return told[k];
            default:
                return NONE;
        }
    }

    public int print(int p) {
        Pack pack = packOf(p);
        if (pack == null) {
            return NONE;
        }
        printer.printPack(pack);
        return printer.count;
    }

    public int fold() {
        scan.begin();
        boolean stands = scan.takeName() && scan.takeEnd();
        scan.useUp();
        if (!stands) {
            return scan.refusal();
        }
        printer.printFolded(scan.takenName());
        return printer.count;
    }

    public int at(int k) {
        return k < 0 || k >= printer.count ? NONE : printer.signs[k];
    }

    private Pack packOf(int p) {
        return p < 0 || p >= packCount ? null : packs[p];
    }

    private Row rowOf(int p, int i) {
        Pack pack = packOf(p);
        return pack == null || i < 0 || i >= pack.rows.length ? null : pack.rows[i];
    }

    private void tellAlone(boolean[] paired, int rowCount) {
        for (int i = 0; i < rowCount && i < paired.length && toldCount < told.length; i++) {
            if (!paired[i]) {
                told[toldCount] = i;
                toldCount++;
            }
        }
    }

    /** The KINDS of rows and the words with which the text tells them. */
    private static final class Kind {
        static final int BUILD = 1;
        static final int TEST = 2;
        static final int OPTIONAL = 3;
        static final int PEER = 4;
        static final int CONFLICT = 5;
        static final int REPLACE = 6;
        static final int PROVIDE = 7;
        static final int ANY = 8;
        static final int FEATURE = 9;
        static final int DEFAULT = 10;
        static final int PLATFORM = 11;
        static final int LICENCE = 12;
        static final int KEEPER = 13;
        static final int SCRIPT = 14;
        static final int FILE = 15;

        static boolean isNeed(int kind) {
            return kind <= PEER;
        }

        static boolean hasRange(int kind) {
            return kind <= REPLACE || kind == ANY;
        }

        static boolean isList(int kind) {
            return kind >= DEFAULT && kind <= KEEPER;
        }

        static boolean joins(int kind) {
            return kind <= REPLACE || isList(kind);
        }

        static String firstWord(int kind) {
            switch (kind) {
                case CONFLICT:
                    return "conflict";
                case REPLACE:
                    return "replace";
                case PROVIDE:
                    return "provide";
                case ANY:
                    return "any";
                case FEATURE:
                    return "feature";
                case DEFAULT:
                    return "default";
                case PLATFORM:
                    return "platform";
                case LICENCE:
                    return "licence";
                case KEEPER:
                    return "keeper";
                case SCRIPT:
                    return "script";
                case FILE:
                    return "file";
                default:
                    return "need";
            }
        }

        static String needWord(int kind) {
            switch (kind) {
                case BUILD:
                    return "build";
                case TEST:
                    return "test";
                case OPTIONAL:
                    return "optional";
                case PEER:
                    return "peer";
                default:
                    return "run";
            }
        }
    }

    /** A NAME as it was written, and FOLDED. */
    private static final class Name {
        final char[] written;
        final char[] folded;
        final int foldedLength;

        /** The signs of the text from one place up to another, both of them within it. */
        Name(char[] text, int from, int to) {
            int length = from >= 0 && from <= to && to <= text.length ? to - from : 0;
            written = new char[length];
            folded = new char[length];
            int count = 0;
            for (int i = 0; i < length; i++) {
                char sign = text[from + i];
                written[i] = sign;
                char small = isBar(sign) ? '-' : smallLetter(sign);
                if (small != '-' || count == 0 || folded[count - 1] != '-') {
                    folded[count] = small;
                    count++;
                }
            }
            foldedLength = count;
        }

        static boolean isBar(char sign) {
            return sign == '-' || sign == '_' || sign == '.';
        }

        static char smallLetter(char sign) {
            return sign >= 'A' && sign <= 'Z' ? (char) (sign - 'A' + 'a') : sign;
        }

        int writtenAt(int k) {
            return k < 0 || k >= written.length ? NONE : written[k];
        }

        int foldedAt(int k) {
            return k < 0 || k >= foldedLength ? NONE : folded[k];
        }

        /** Below 0, 0 or above 0 as the one FOLDED name is less than, like or above the other. */
        int order(Name another) {
            int length = Math.min(foldedLength, another.foldedLength);
            for (int i = 0; i < length; i++) {
                if (folded[i] != another.folded[i]) {
                    return folded[i] - another.folded[i];
                }
            }
            return foldedLength - another.foldedLength;
        }

        boolean foldsLike(Name another) {
            return order(another) == 0;
        }

        boolean isWrittenLike(Name another) {
            if (written.length != another.written.length) {
                return false;
            }
            for (int i = 0; i < written.length; i++) {
                if (written[i] != another.written[i]) {
                    return false;
                }
            }
            return true;
        }

        boolean foldsLikeOneOf(Name[] names, int count) {
            for (int i = 0; i < count && i < names.length; i++) {
                if (order(names[i]) == 0) {
                    return true;
                }
            }
            return false;
        }
    }

    /** A row; what it doesn't have is NONE or null. */
    private static final class Row {
        final int kind;
        final int set;
        final Name name;
        /** The feature's name or the script's second one. */
        final Name other;
        /** Of a file the NUMBER, else the least version. */
        long least;
        /** The first version behind. */
        long end;
        boolean writtenDifferently;
        int why;

        Row(int kind, int set, Name name, Name other, long least, long end) {
            this.kind = kind;
            this.set = set;
            this.name = name;
            this.other = other;
            this.least = least;
            this.end = end;
        }

        boolean isOfFeature(Name feature) {
            return kind == Kind.FEATURE && other != null && other.foldsLike(feature);
        }

        boolean hasEmptyRange() {
            return Kind.hasRange(kind) && least >= end;
        }

        /** The order of the NORMAL FORM. */
        int order(Row another) {
            if (kind != another.kind) {
                return kind - another.kind;
            }
            if (set != another.set) {
                return set - another.set;
            }
            if (kind == Kind.FEATURE && other != null && another.other != null) {
                int byFeature = other.order(another.other);
                if (byFeature != 0) {
                    return byFeature;
                }
            }
            return name.order(another.name);
        }

        /** Whether nothing but the writing tells two rows apart that have the same order. */
        boolean holdsLike(Row another) {
            if (least != another.least || end != another.end) {
                return false;
            }
            return other == null || another.other == null || other.foldsLike(another.other);
        }

        boolean joins(Row another) {
            return Kind.joins(kind) && order(another) == 0;
        }

        void join(Row another) {
            if (!name.isWrittenLike(another.name)) {
                writtenDifferently = true;
            }
            least = Math.max(least, another.least);
            end = Math.min(end, another.end);
            if (hasEmptyRange()) {
                least = 0;
                end = 0;
            }
        }

        /** Whether the two are told in one row of a text. */
        boolean sharesTextRow(Row another) {
            if (kind != another.kind) {
                return false;
            }
            if (kind == Kind.ANY) {
                return set == another.set;
            }
            return Kind.isList(kind) || other != null && another.isOfFeature(other);
        }
    }

    /** A package that was read; its rows are in NORMAL FORM, its features as they came first. */
    private static final class Pack {
        final Name name;
        final long version;
        final Name[] features;
        final Row[] rows;

        Pack(Name name, long version, Name[] features, Row[] rows) {
            this.name = name;
            this.version = version;
            this.features = features;
            this.rows = rows;
        }

        boolean hasFeature(Name feature) {
            return feature.foldsLikeOneOf(features, features.length);
        }

        boolean hasOptionalNeed(Name need) {
            for (int i = 0; i < rows.length; i++) {
                if (rows[i].kind == Kind.OPTIONAL && rows[i].name.foldsLike(need)) {
                    return true;
                }
            }
            return false;
        }

        boolean hasNamesOf(Name feature) {
            for (int i = 0; i < rows.length; i++) {
                if (rows[i].isOfFeature(feature)) {
                    return true;
                }
            }
            return false;
        }

        /** Whether all but the rows is the same. */
        boolean headsAlike(Pack another) {
            if (!name.foldsLike(another.name) || version != another.version
                    || features.length != another.features.length) {
                return false;
            }
            for (int i = 0; i < features.length; i++) {
                if (!another.hasFeature(features[i])) {
                    return false;
                }
            }
            return true;
        }

        void markBroken() {
            for (int i = 0; i < rows.length; i++) {
                rows[i].why = whyBroken(rows[i]);
            }
        }

        int whyBroken(Row row) {
            boolean needs = Kind.isNeed(row.kind) || row.kind == Kind.ANY;
            if (needs && row.name.foldsLike(name)) {
                return 1;
            }
            if (row.hasEmptyRange()) {
                return 2;
            }
            if (row.kind == Kind.FEATURE && !hasFeature(row.name) && !hasOptionalNeed(row.name)) {
                return 3;
            }
            return row.writtenDifferently ? 4 : 0;
        }
    }

    /** The collected SIGNS, taken word by word and sign by sign, and the place that can't stand. */
    private static final class Scan {
        final char[] signs = new char[MOST_SIGNS];
        int count;
        int place;
        int refused;
        int wordFrom;
        int wordTo;
        /** What takeNumber or takeVersion took last. */
        long value;
        long least;
        long end;

        void collect(char sign) {
            if (sign != 0 && count < signs.length) {
                signs[count] = sign;
                count++;
            }
        }

        void begin() {
            place = 0;
            refused = 0;
            wordFrom = 0;
            wordTo = 0;
        }

        void useUp() {
            count = 0;
        }

        int refusal() {
            return -1 - refused;
        }

        boolean refuse(int where) {
            refused = where;
            return false;
        }

        /** 0, which is never collected, behind the last sign. */
        char signHere() {
            return place < count ? signs[place] : 0;
        }

        void skipBlanks() {
            while (place < count && (signs[place] == 32 || signs[place] == 10)) {
                place++;
            }
        }

        boolean atEnd() {
            skipBlanks();
            return place >= count;
        }

        boolean takeEnd() {
            return atEnd() || refuse(place);
        }

        boolean takeIfNext(char sign) {
            skipBlanks();
            if (signHere() != sign) {
                return false;
            }
            place++;
            return true;
        }

        boolean takeSign(char sign) {
            return takeIfNext(sign) || refuse(place);
        }

        boolean isNext(char sign) {
            skipBlanks();
            return signHere() == sign;
        }

        boolean takeWord() {
            skipBlanks();
            if (!isLetter(signHere())) {
                return refuse(place);
            }
            wordFrom = place;
            while (place < count && (isLetter(signs[place]) || isDigit(signs[place]) || Name.isBar(signs[place]))) {
                place++;
            }
            wordTo = place;
            return true;
        }

        boolean isWord(String word) {
            if (wordTo - wordFrom != word.length()) {
                return false;
            }
            for (int i = 0; i < word.length(); i++) {
                if (signs[wordFrom + i] != word.charAt(i)) {
                    return false;
                }
            }
            return true;
        }

        boolean takeName() {
            if (!takeWord()) {
                return false;
            }
            if (wordTo - wordFrom > MOST_LETTERS || Name.isBar(signs[wordTo - 1])) {
                return refuse(wordFrom);
            }
            return true;
        }

        Name takenName() {
            return new Name(signs, wordFrom, wordTo);
        }

        /** A NUMBER that begins right here. */
        boolean takeNumber() {
            int from = place;
            value = 0;
            while (place < count && signs[place] >= '0' && signs[place] <= '9') {
                if (place - from < MOST_DIGITS) {
                    value = value * 10 + signs[place] - '0';
                }
                place++;
            }
            int length = place - from;
            boolean idleZero = length > 1 && signs[from] == '0';
            if (length < 1 || length > MOST_DIGITS || idleZero) {
                refused = from;
                return false;
            }
            return true;
        }

        boolean takeVersion() {
            skipBlanks();
            if (!takeNumber()) {
                return false;
            }
            long version = value;
            for (int n = 1; n < NUMBERS_OF_VERSION; n++) {
                boolean dotted = signHere() == '.';
                if (dotted) {
                    place++;
                }
                if (!dotted || !isDigit(signHere())) {
                    skipBlanks();
                    return refuse(place);
                }
                if (!takeNumber()) {
                    return false;
                }
                version = version * NUMBERS + value;
            }
            value = version;
            return true;
        }

        boolean takeRange() {
            least = 0;
            end = NO_END;
            if (takeIfNext('*')) {
                return true;
            }
            for (int n = 0; n < MOST_BOUNDS; n++) {
                skipBlanks();
                char bound = signHere();
                if (bound != '=' && bound != '<' && bound != '>') {
                    if (n == 0) {
                        return refuse(place);
                    }
                    break;
                }
                place++;
                boolean itselfToo = bound == '=';
                if (!itselfToo && signHere() == '=') {
                    itselfToo = true;
                    place++;
                }
                if (!takeVersion()) {
                    return false;
                }
                narrow(bound, itselfToo);
            }
            if (least >= end) {
                least = 0;
                end = 0;
            }
            return true;
        }

        void narrow(char bound, boolean itselfToo) {
            long behind = value + 1;
            if (bound != '<') {
                least = Math.max(least, itselfToo ? value : behind);
            }
            if (bound != '>') {
                end = Math.min(end, itselfToo ? behind : value);
            }
        }

        static boolean isLetter(char sign) {
            return sign >= 'a' && sign <= 'z' || sign >= 'A' && sign <= 'Z';
        }

        static boolean isDigit(char sign) {
            return sign >= '0' && sign <= '9';
        }
    }

    /** Takes the text of a PACKAGE; its rows wait here, as they came, until a Pack is made of them. */
    private static final class Reader {
        final Scan scan = new Scan();
        final Row[] rows = new Row[MOST_ROWS];
        final int[] namePlaces = new int[MOST_ROWS];
        int rowCount;
        final Name[] features = new Name[MOST_FEATURES];
        int featureCount;
        Name name;
        long version;
        int textRowPlace;
        int set;

        boolean takeText() {
            rowCount = 0;
            featureCount = 0;
            set = NONE;
            if (!takeHead()) {
                return false;
            }
            for (int n = 0; n < MOST_SIGNS && !scan.atEnd(); n++) {
                if (!takeTextRow() || !scan.takeSign(';')) {
                    return false;
                }
            }
            return defaultsStand();
        }

        boolean takeHead() {
            if (!scan.takeWord()) {
                return false;
            }
            if (!scan.isWord("package")) {
                return scan.refuse(scan.wordFrom);
            }
            if (!scan.takeName()) {
                return false;
            }
            name = scan.takenName();
            if (!scan.takeVersion()) {
                return false;
            }
            version = scan.value;
            return scan.takeSign(';');
        }

        boolean takeTextRow() {
            if (!scan.takeWord()) {
                return false;
            }
            textRowPlace = scan.wordFrom;
            int kind = kindOfFirstWord();
            if (kind == Kind.PEER) {
                if (!scan.takeWord()) {
                    return false;
                }
                kind = kindOfNeedWord();
            }
            switch (kind) {
                case NONE:
                    return scan.refuse(scan.wordFrom);
                case Kind.PROVIDE:
                    return takeProvided();
                case Kind.FEATURE:
                    return takeFeature();
                case Kind.SCRIPT:
                    return takeScript();
                case Kind.FILE:
                    return takeFile();
                default:
                    return Kind.isList(kind) ? takeNames(kind, null) : takeRanged(kind);
            }
        }

        /** PEER, the last of them, stands for all needs, whose kind the next word tells. */
        int kindOfFirstWord() {
            for (int kind = Kind.PEER; kind <= Kind.FILE; kind++) {
                if (scan.isWord(Kind.firstWord(kind))) {
                    return kind;
                }
            }
            return NONE;
        }

        int kindOfNeedWord() {
            for (int kind = 0; kind <= Kind.PEER; kind++) {
                if (scan.isWord(Kind.needWord(kind))) {
                    return kind;
                }
            }
            return NONE;
        }

        /** NAME RANGE; of any at least two of them, with | between. */
        boolean takeRanged(int kind) {
            boolean alternatives = kind == Kind.ANY;
            if (alternatives) {
                set++;
            }
            for (int n = 0; n <= MOST_ROWS; n++) {
                if (!scan.takeName()) {
                    return false;
                }
                Name taken = scan.takenName();
                if (!scan.takeRange() || !addRow(kind, taken, null, scan.least, scan.end)) {
                    return false;
                }
                if (!alternatives) {
                    return true;
                }
                if (!scan.takeIfNext('|')) {
                    return n > 0 || scan.refuse(scan.place);
                }
            }
            return false;
        }

        boolean takeProvided() {
            if (!scan.takeName()) {
                return false;
            }
            Name taken = scan.takenName();
            return scan.takeVersion() && addRow(Kind.PROVIDE, taken, null, scan.value, scan.value + 1);
        }

        boolean takeFeature() {
            if (!scan.takeName()) {
                return false;
            }
            Name feature = scan.takenName();
            if (!feature.foldsLikeOneOf(features, featureCount) && featureCount < features.length) {
                features[featureCount] = feature;
                featureCount++;
            }
            if (!scan.takeSign(':')) {
                return false;
            }
            return scan.isNext(';') || takeNames(Kind.FEATURE, feature);
        }

        boolean takeNames(int kind, Name feature) {
            for (int n = 0; n <= MOST_ROWS; n++) {
                if (!scan.takeName() || !addRow(kind, scan.takenName(), feature, NONE, NONE)) {
                    return false;
                }
                if (!scan.takeIfNext(',')) {
                    return true;
                }
            }
            return false;
        }

        boolean takeScript() {
            if (!scan.takeName()) {
                return false;
            }
            Name taken = scan.takenName();
            return scan.takeName() && addRow(Kind.SCRIPT, taken, scan.takenName(), NONE, NONE);
        }

        boolean takeFile() {
            if (!scan.takeName()) {
                return false;
            }
            Name taken = scan.takenName();
            scan.skipBlanks();
            return scan.takeNumber() && addRow(Kind.FILE, taken, null, scan.value, NONE);
        }

        boolean addRow(int kind, Name taken, Name other, long least, long end) {
            if (rowCount >= rows.length || rowCount >= namePlaces.length) {
                return scan.refuse(textRowPlace);
            }
            rows[rowCount] = new Row(kind, kind == Kind.ANY ? set : NONE, taken, other, least, end);
            namePlaces[rowCount] = scan.wordFrom;
            rowCount++;
            return true;
        }

        boolean defaultsStand() {
            for (int i = 0; i < rowCount; i++) {
                if (rows[i].kind == Kind.DEFAULT && !rows[i].name.foldsLikeOneOf(features, featureCount)) {
                    return scan.refuse(namePlaces[i]);
                }
            }
            return true;
        }

        /** Of the text that was just taken, which could stand. */
        Pack makePack() {
            sortRows();
            joinRows();
            Name[] ownFeatures = new Name[featureCount];
            for (int i = 0; i < featureCount; i++) {
                ownFeatures[i] = features[i];
            }
            Row[] ownRows = new Row[rowCount];
            for (int i = 0; i < rowCount; i++) {
                ownRows[i] = rows[i];
            }
            Pack pack = new Pack(name, version, ownFeatures, ownRows);
            pack.markBroken();
            return pack;
        }

        /** By insertion, so that rows of like names stay as they came. */
        void sortRows() {
            for (int i = 1; i < rowCount; i++) {
                Row row = rows[i];
                int to = i;
                while (to > 0 && rows[to - 1].order(row) > 0) {
                    rows[to] = rows[to - 1];
                    to--;
                }
                rows[to] = row;
            }
        }

        /** Rows that join are neighbours once they are sorted, the one written first ahead. */
        void joinRows() {
            int kept = 0;
            for (int i = 0; i < rowCount; i++) {
                if (kept > 0 && rows[kept - 1].joins(rows[i])) {
                    rows[kept - 1].join(rows[i]);
                } else {
                    rows[kept] = rows[i];
                    kept++;
                }
            }
            rowCount = kept;
        }
    }

    /** Which rows of two packages are alike, one for one. */
    private static final class Pairing {
        final boolean[] firstPaired = new boolean[MOST_ROWS];
        final boolean[] secondPaired = new boolean[MOST_ROWS];

        /** How many rows of both are left without another; both are sorted, so one walk is enough. */
        int countAlone(Pack first, Pack second) {
            clear(firstPaired);
            clear(secondPaired);
            int pairs = 0;
            int from = 0;
            for (int i = 0; i < first.rows.length && i < firstPaired.length; i++) {
                Row row = first.rows[i];
                while (from < second.rows.length && second.rows[from].order(row) < 0) {
                    from++;
                }
                if (pairFrom(from, row, second.rows)) {
                    firstPaired[i] = true;
                    pairs++;
                }
            }
            return first.rows.length + second.rows.length - 2 * pairs;
        }

        boolean pairFrom(int from, Row row, Row[] others) {
            for (int k = from; k < others.length && k < secondPaired.length && others[k].order(row) == 0; k++) {
                if (!secondPaired[k] && others[k].holdsLike(row)) {
                    secondPaired[k] = true;
                    return true;
                }
            }
            return false;
        }

        static void clear(boolean[] paired) {
            for (int i = 0; i < paired.length; i++) {
                paired[i] = false;
            }
        }
    }

    /** What was printed last. */
    private static final class Printer {
        final char[] signs = new char[MOST_PRINTED];
        int count;

        void printFolded(Name name) {
            count = 0;
            for (int i = 0; i < name.foldedLength; i++) {
                put(name.folded[i]);
            }
        }

        void printPack(Pack pack) {
            count = 0;
            putText("package ");
            putName(pack.name);
            put(' ');
            putVersion(pack.version);
            for (int i = 0; i < pack.rows.length; i++) {
                Row row = pack.rows[i];
                if (i > 0 && pack.rows[i - 1].sharesTextRow(row)) {
                    putText(row.kind == Kind.ANY ? " | " : ", ");
                } else {
                    putText("; ");
                    putBeginning(row);
                }
                putName(row.name);
                putRest(row);
            }
            putBareFeatures(pack);
            put(';');
        }

        void putBeginning(Row row) {
            putText(Kind.firstWord(row.kind));
            put(' ');
            if (Kind.isNeed(row.kind)) {
                putText(Kind.needWord(row.kind));
                put(' ');
            }
            if (row.kind == Kind.FEATURE && row.other != null) {
                putName(row.other);
                putText(": ");
            }
        }

        /** What stands behind the row's NAME. */
        void putRest(Row row) {
            if (Kind.hasRange(row.kind)) {
                put(' ');
                putRange(row.least, row.end);
            } else if (row.kind == Kind.PROVIDE) {
                put(' ');
                putVersion(row.least);
            } else if (row.kind == Kind.SCRIPT && row.other != null) {
                put(' ');
                putName(row.other);
            } else if (row.kind == Kind.FILE) {
                put(' ');
                putNumber(row.least);
            }
        }

        void putBareFeatures(Pack pack) {
            for (int i = 0; i < pack.features.length; i++) {
                if (!pack.hasNamesOf(pack.features[i])) {
                    putText("; feature ");
                    putName(pack.features[i]);
                    put(':');
                }
            }
        }

        void putRange(long least, long end) {
            if (least == 0 && end == NO_END) {
                put('*');
            } else if (end - least == 1) {
                putText("= ");
                putVersion(least);
            } else {
                if (least != 0) {
                    putText(">= ");
                    putVersion(least);
                }
                if (least != 0 && end != NO_END) {
                    put(' ');
                }
                if (end != NO_END) {
                    putText("< ");
                    putVersion(end);
                }
            }
        }

        void putVersion(long version) {
            putNumber(version / NUMBERS / NUMBERS);
            put('.');
            putNumber(version / NUMBERS % NUMBERS);
            put('.');
            putNumber(version % NUMBERS);
        }

        void putNumber(long number) {
            long unit = 1;
            for (int n = 1; n < MOST_DIGITS && number / unit >= 10; n++) {
                unit *= 10;
            }
            for (; unit > 0; unit /= 10) {
                put((char) ('0' + number / unit % 10));
            }
        }

        void putName(Name name) {
            for (int i = 0; i < name.written.length; i++) {
                put(name.written[i]);
            }
        }

        void putText(String text) {
            for (int i = 0; i < text.length(); i++) {
                put(text.charAt(i));
            }
        }

        void put(char sign) {
            if (count < signs.length) {
                signs[count] = sign;
                count++;
            }
        }
    }
}
