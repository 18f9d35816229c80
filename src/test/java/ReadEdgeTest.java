import java.util.Arrays;

/**
 * The boundary cases of read and where (promises 5 and 6) up to the ENTRIES, and of the end: a test
 * for each sentence.
 */
public final class ReadEdgeTest {
    private static final String FAULT = "IllegalArgumentException";
    private static final String UNKNOWN = "UnsupportedOperationException";

    public static void main(String[] args) {
        file();
        version();
        entries();
        wide();
        characters();
        links();
        names();
        ends();
        promises();
        Due.end();
    }

    private static void file() {
        fullFile();
        highestFirst();
        missingBytes();
        missingOfEach();
        firstFault();
    }

    private static void version() {
        magic();
        major();
        minor();
        unknownVersion();
    }

    private static void entries() {
        leastCount();
        numbersUpToCount();
        emptyText();
        otherTags();
    }

    private static void wide() {
        lastWide();
        notLastWide();
        wideGap();
        wideInOrder();
    }

    private static void characters() {
        oneByte();
        twoBytes();
        threeBytes();
        noCharacter();
        missingCharacter();
        bytesFirst();
    }

    private static void links() {
        faultAtTag();
        noSuchEntry();
        classNames();
        strings();
        types();
        fields();
        methodsAndFaces();
        namings();
        dynamics();
        handles();
        faultyNaming();
    }

    private static void names() {
        simpleNames();
        methodNames();
        fieldDescriptors();
        paths();
        methodDescriptors();
        classNameKinds();
    }

    private static void ends() {
        noByteLeft();
        bootstrapNumbers();
        firstStarts();
    }

    private static void promises() {
        countAnswered();
        versionComesFirst();
        nothingRead();
        latestReading();
        nothingOfEarlier();
        offsetOfFault();
        noFault();
    }

    private static ClassFile plain() {
        return ClassFile.start().endPlain(2);
    }

    private static void due(String what, ClassFile f, boolean good, int at) {
        if (good) {
            f.isGood(what);
        } else {
            f.faultAt(what, at);
        }
    }

    // The FILE and its FAULTS.

    private static void fullFile() {
        Due.by("THE FILE is a row of at most 500 BYTES (0 to 255), with OFFSETS from 0 on");
        ClassFile f = ClassFile.start();
        int pad = 500 - f.size() - 3 - 14;
        f.text("x".repeat(pad));
        f.endPlain(2).isGood("500 BYTES");
        Due.is("its size", f::size, 500);
        f.set2(498, 1).faultAt("a FAULT behind the last of 500", 500);
        ClassFile g = ClassFile.start();
        g.text("x".repeat(pad - 1));
        g.endPlain(2).u1(255).faultAt("a FAULT at the last of 500", 499);
    }

    private static void highestFirst() {
        Due.by("u1, u2, u4 are numbers of 1, 2, 4 BYTES, the highest one first");
        ClassFile f = ClassFile.start();
        f.four(3, 0x80000001);
        f.four(3, 0xFFFFFFFF);
        ClassReader x = f.endPool().all(0xFDEF, 2, 0, 0, 0, 0, 0).read();
        Due.is("a u2", () -> x.whole(0), 0xFDEF);
        Due.is("a u4", () -> x.entry(3, 1), 0x80000001);
        Due.is("the highest u4, as an int", () -> x.entry(4, 1), -1);
        ClassFile g = ClassFile.start().set2(8, 4).u1(1).u2(0x0100);
        for (int i = 0; i < 255; i++) {
            g.u1(65);
        }
        g.faultAt("a TEXT of 256 BYTES, one of which is missing", g.size());
    }

    private static void missingBytes() {
        Due.by("where BYTES are wanted that are not there, it is at the OFFSET behind the last one");
        byte[] file = plain().bytes();
        for (int n = 0; n < file.length; n++) {
            ClassReader x = ClassFile.load(Arrays.copyOf(file, n));
            Due.is(n + " BYTES: read()", x::read, FAULT);
            int size = n;
            Due.is(n + " BYTES: where()", x::where, size);
        }
        due("all BYTES", plain(), true, 0);
    }

    /** Each ENTRY that is cut off anywhere behind its TAG, and one whose TAG is not there. */
    private static void missingOfEach() {
        Due.by("u1 the TAG, and what stands behind it");
        int[][] widths = {{1, 2}, {3, 4}, {4, 4}, {5, 8}, {6, 8}, {7, 2}, {8, 2}, {16, 2}, {9, 4}, {10, 4}, {11, 4},
            {12, 4}, {17, 4}, {18, 4}, {15, 3}};
        ClassFile.start().set2(8, 4).faultAt("no TAG", ClassFile.start().size());
        for (int[] row : widths) {
            for (int there = 0; there < row[1]; there++) {
                ClassFile f = ClassFile.start().set2(8, 6).u1(row[0]);
                for (int i = 0; i < there; i++) {
                    f.u1(0);
                }
                f.faultAt("TAG " + row[0] + " and " + there + " BYTES", f.size());
            }
        }
    }

    /** Two FAULTS at a time, one after the other in the document's order. */
    private static void firstFault() {
        Due.by("The first FAULT counts, in this order:");
        plain().set2(0, 0).set2(6, 0).faultAt("1, the first number and the version", 0);
        ClassReader x = plain().set2(6, 0).set2(8, 0).load();
        Due.is("1 and 2", x::read, UNKNOWN);
        Due.is("where()", x::where, 4);
        ClassFile f = new ClassFile();
        f.one(7, 1);
        int at = f.size();
        f.one(99, 1);
        f.endPlain(1).faultAt("2 and 3, though 3 stands before it", at);
        ClassFile g = new ClassFile();
        g.one(7, 1);
        g.endPool().all(512, 1, 0, 0, 0, 0, 0).faultAt("3 and 4", 10);
        headFaults();
        endFaults();
    }

    private static void headFaults() {
        ClassFile f = ClassFile.start();
        int at = f.size();
        f.endPool().all(512, 0, 0, 1, 0, 1, 3, 0, 0, 0, 0).faultAt("4, flags and this", at);
        f.set2(at, 0).faultAt("4, this and an interface", at + 2);
        f.set2(at + 2, 2).faultAt("4, an interface and 5", at + 8);
        f.set2(at + 8, 2).faultAt("5, flags and name", at + 12);
        f.set2(at + 12, 0).faultAt("5, name and descriptor", at + 14);
        f.set2(at + 14, 1).faultAt("5, descriptor", at + 16);
        ClassFile g = ClassFile.start();
        g.text("I");
        g.endPool().all(0, 2, 0, 0, 1, 0, 1, 3, 1, 0);
        at = g.size();
        g.u4(0).u2(1).u2(3).faultAt("5, the name of an ATTRIBUTE, and 6", at - 2);
    }

    private static void endFaults() {
        ClassFile f = ClassFile.start();
        f.text("I");
        int at = f.size();
        f.two(18, 0, 5);
        f.two(12, 1, 6);
        f.text("()V");
        f.endPool().all(0, 2, 0, 0, 0, 1, 3, 1, 6, 0);
        int from = f.size();
        f.all(1, 0).u4(0).u1(9).faultAt("6 and 7", from - 8);
        f.set2(from - 8, 1024).faultAt("7 and 8", from + 2);
        f.set2(from + 2, 1).faultAt("8 and 9", from + 8);
        ClassFile g = ClassFile.start();
        at = g.size();
        g.two(18, 0, 4);
        g.two(12, 1, 5);
        g.text("()V");
        g.endPlain(2).faultAt("9", at);
    }

    // 1: the version.

    private static void magic() {
        Due.by("u4 is 3405691582");
        int[] bytes = {0xCA, 0xFE, 0xBA, 0xBE};
        for (int i = 0; i < 4; i++) {
            for (int b : new int[] {bytes[i] - 1, bytes[i] + 1, 0, 255}) {
                ClassReader x = plain().load();
                x.patch(i, b);
                Due.is("BYTE " + i + " is " + b, x::read, FAULT);
                Due.is("where()", x::where, 0);
            }
        }
        for (int n = 0; n <= 4; n++) {
            ClassReader x = ClassFile.load(Arrays.copyOf(new byte[] {1, 2, 3, 4}, n));
            Due.is(n + " wrong BYTES", x::read, FAULT);
            Due.is("where()", x::where, n < 4 ? n : 0);
        }
    }

    private static void ofVersion(int major, int minor, boolean known) {
        ClassReader x = plain().set2(4, minor).set2(6, major).load();
        Due.is("version " + major + "." + minor, x::read, known ? (Object) 3 : UNKNOWN);
        Due.is("where()", x::where, known ? -2 : 4);
    }

    private static void major() {
        Due.by("the major one is 45 to 69");
        for (int major : new int[] {45, 46, 55, 56, 68, 69}) {
            ofVersion(major, 0, true);
        }
        for (int major : new int[] {0, 44, 70, 45 + 256, 65535, 32768}) {
            ofVersion(major, 0, false);
        }
    }

    private static void minor() {
        Due.by("if that is 56 or more the minor one is 0 or 65535");
        for (int minor : new int[] {0, 1, 2, 65534, 65535, 32768}) {
            ofVersion(45, minor, true);
            ofVersion(55, minor, true);
            ofVersion(56, minor, minor == 0 || minor == 65535);
            ofVersion(69, minor, minor == 0 || minor == 65535);
            ofVersion(70, minor, false);
            ofVersion(44, minor, false);
        }
    }

    private static void unknownVersion() {
        Due.by("else the version is UNKNOWN (FAULT at OFFSET 4)");
        byte[] file = plain().set2(4, 65535).set2(6, 44).bytes();
        for (int n = 4; n < 8; n++) {
            ClassReader x = ClassFile.load(Arrays.copyOf(file, n));
            int size = n;
            Due.is("where it is not all there: read()", x::read, FAULT);
            Due.is("where()", x::where, size);
        }
        ClassReader x = ClassFile.load(Arrays.copyOf(file, 8));
        Due.is("just there: read()", x::read, UNKNOWN);
        Due.is("where()", x::where, 4);
    }

    // 2: the ENTRIES.

    private static void leastCount() {
        Due.by("u2 c, at least 1; then ENTRIES");
        new ClassFile().set2(8, 0).faultAt("0", 8);
        new ClassFile().set2(8, 0).u1(99).faultAt("0, and a BYTE behind it", 8);
        new ClassFile().set2(8, 1).faultAt("1, and no flags", 10);
        new ClassFile().set2(8, 1).all(0, 0).faultAt("1, and no CLASS", 12);
    }

    private static void numbersUpToCount() {
        Due.by("ENTRIES, numbered from 1 on, up to c - 1");
        ClassReader x = plain().read();
        Due.is("0", () -> x.entry(0, 0), -2);
        Due.is("1", () -> x.entry(1, 0), 1);
        Due.is("c - 1", () -> x.entry(2, 0), 7);
        Due.is("c", () -> x.entry(3, 0), -2);
        ClassFile f = new ClassFile().set2(8, 65535);
        f.text("");
        f.faultAt("65534 ENTRIES, and one there", f.size());
    }

    private static void emptyText() {
        Due.by("1 TEXT: u2 n, and n BYTES");
        ClassFile f = ClassFile.start();
        f.text("");
        f.rawText(1);
        ClassReader x = f.endPlain(2).read();
        Due.is("CHARACTERS of no BYTE", () -> x.text(3, -1), 0);
        Due.is("CHARACTERS of one", () -> x.text(4, -1), 1);
        ClassFile g = ClassFile.start().set2(8, 4).u1(1).u2(65535).u1(65);
        g.faultAt("65535 BYTES, and one there", g.size());
    }

    private static void otherTags() {
        Due.by("Another TAG is a FAULT.");
        for (int tag = 0; tag <= 255; tag++) {
            boolean known = tag == 1 || tag >= 3 && tag <= 12 || tag >= 15 && tag <= 18;
            if (!known) {
                ClassFile f = ClassFile.start();
                int at = f.size();
                f.set2(8, 4).u1(tag).faultAt("TAG " + tag + ", and nothing behind it", at);
                f.u4(0).u4(0).faultAt("TAG " + tag, at);
            }
        }
    }

    private static void lastWide() {
        Due.by("5 LONG, 6 DOUBLE: u4 u4, they take the next number, too, which is no ENTRY then (FAULT at the "
                + "TAG if that is c)");
        for (int tag = 5; tag <= 6; tag++) {
            for (int there = 0; there <= 8; there++) {
                ClassFile only = new ClassFile().set2(8, 2).u1(tag);
                ClassFile last = ClassFile.start();
                int at = last.size();
                last.set2(8, 4).u1(tag);
                for (int i = 0; i < there; i++) {
                    only.u1(i);
                    last.u1(255);
                }
                only.faultAt("TAG " + tag + " as the only ENTRY, " + there + " of 8 BYTES", 10);
                last.faultAt("TAG " + tag + " as the last ENTRY, " + there + " of 8 BYTES", at);
            }
            ClassFile all = ClassFile.start();
            int at = all.size();
            all.eight(tag, 1);
            all.endPlain(2).set2(8, 4).faultAt("TAG " + tag + " as the last ENTRY, and a whole FILE behind it", at);
        }
    }

    private static void notLastWide() {
        Due.by("5 LONG, 6 DOUBLE: u4 u4");
        for (int tag = 5; tag <= 6; tag++) {
            ClassFile f = ClassFile.start();
            f.eight(tag, 1);
            f.endPlain(2).isGood("TAG " + tag + " before the end");
            for (int there = 0; there < 8; there++) {
                ClassFile g = ClassFile.start().set2(8, 5).u1(tag);
                for (int i = 0; i < there; i++) {
                    g.u1(0);
                }
                g.faultAt("TAG " + tag + ", " + there + " of 8 BYTES", g.size());
            }
        }
    }

    private static void wideGap() {
        Due.by("they take the next number, too, which is no ENTRY then");
        for (int tag = 5; tag <= 6; tag++) {
            ClassFile f = ClassFile.start();
            f.eight(tag, 1);
            f.eight(tag, 2);
            f.one(8, 1);
            ClassReader x = f.endPlain(2).read();
            int[] tags = {-2, 1, 7, tag, -2, tag, -2, 8, -2};
            for (int i = 0; i < tags.length; i++) {
                int k = i;
                Due.is("entry(" + i + ", 0)", () -> x.entry(k, 0), tags[i]);
            }
            ClassFile g = ClassFile.start();
            int wide = g.eight(tag, 1);
            int at = g.size();
            g.one(8, wide + 1);
            g.endPlain(2).faultAt("a STRING that names the number behind", at);
        }
    }

    /** A FAULT that stands before the last LONG or DOUBLE, and one that stands behind it. */
    private static void wideInOrder() {
        Due.by("READING goes through it from OFFSET 0 on");
        ClassFile f = ClassFile.start();
        int at = f.size();
        f.one(99, 1);
        f.u1(5).set2(8, 5).faultAt("another TAG before a LONG that is the last", at);
        ClassFile g = ClassFile.start();
        at = g.size();
        g.eight(5, 1);
        g.set2(8, 4).u1(99).faultAt("another TAG behind it", at);
        ClassFile h = new ClassFile();
        h.one(7, 1);
        at = h.size();
        h.set2(8, 3).u1(6).u4(0).faultAt("a faulty CLASS before it", at);
    }

    // The CHARACTERS of a TEXT.

    private static ClassFile withText(int... raw) {
        ClassFile f = ClassFile.start();
        f.rawText(raw);
        return f.endPlain(2);
    }

    /** Where the first BYTE of the TEXT of withText stands. */
    private static final int RAW_AT = ClassFile.start().size() + 3;

    private static void character(int want, int... raw) {
        ClassReader x = withText(raw).read();
        Due.is("how many in " + Arrays.toString(raw), () -> x.text(3, -1), 1);
        Due.is("the CHARACTER of " + Arrays.toString(raw), () -> x.text(3, 0), want);
    }

    private static void oneByte() {
        Due.by("a BYTE 1 to 127");
        character(1, 1);
        character(2, 2);
        character(126, 126);
        character(127, 127);
        withText(0).faultAt("0", RAW_AT);
        withText(128).faultAt("128", RAW_AT);
        withText(65, 0).faultAt("0 behind another", RAW_AT + 1);
    }

    private static void twoBytes() {
        Due.by("or a BYTE 192 to 223 and one 128 to 191 (64 * (first mod 32) + second mod 64)");
        character(0, 192, 128);
        character(1, 192, 129);
        character(63, 192, 191);
        character(64, 193, 128);
        character(1984, 223, 128);
        character(2047, 223, 191);
        for (int second : new int[] {0, 127, 192, 255}) {
            withText(192, second).faultAt("192, " + second, RAW_AT);
            withText(223, second, 65).faultAt("223, " + second, RAW_AT);
        }
        withText(191, 128).faultAt("191, 128", RAW_AT);
    }

    private static void threeBytes() {
        Due.by("or a BYTE 224 to 239 and two 128 to 191 (4096 * (first mod 16) + 64 * (second mod 64) + third mod 64)");
        character(0, 224, 128, 128);
        character(1, 224, 128, 129);
        character(64, 224, 129, 128);
        character(4095, 224, 191, 191);
        character(4096, 225, 128, 128);
        character(65535, 239, 191, 191);
        character(61440, 239, 128, 128);
        for (int wrong : new int[] {0, 127, 192, 255}) {
            withText(224, wrong, 128).faultAt("224, " + wrong + ", 128", RAW_AT);
            withText(224, 128, wrong).faultAt("224, 128, " + wrong, RAW_AT);
            withText(239, 191, wrong, 65).faultAt("239, 191, " + wrong, RAW_AT);
        }
        withText(240, 128, 128).faultAt("240, 128, 128", RAW_AT);
    }

    private static void noCharacter() {
        Due.by("else there is a FAULT at the first BYTE of the CHARACTER");
        for (int first = 0; first <= 255; first++) {
            boolean alone = first >= 1 && first <= 127;
            boolean two = first >= 192 && first <= 223;
            boolean three = first >= 224 && first <= 239;
            due(first + " alone", withText(first), alone, RAW_AT);
            due(first + " and one", withText(first, 128), two, alone ? RAW_AT + 1 : RAW_AT);
            due(first + " and two", withText(first, 191, 191), three, alone ? RAW_AT + 1 : two ? RAW_AT + 2 : RAW_AT);
        }
        withText(65, 192, 128, 224, 128, 65).faultAt("the third CHARACTER", RAW_AT + 3);
    }

    private static void missingCharacter() {
        Due.by("(also where a BYTE is missing before the n-th one");
        withText(192).faultAt("one of two", RAW_AT);
        withText(65, 223).faultAt("one of two, behind another", RAW_AT + 1);
        withText(224).faultAt("one of three", RAW_AT);
        withText(224, 128).faultAt("two of three", RAW_AT);
        withText(65, 66, 239, 191).faultAt("two of three, behind others", RAW_AT + 2);
        // The BYTE that would go on with the CHARACTER is there, but it is not of the TEXT.
        ClassFile f = withText(65, 192, 128);
        f.set2(RAW_AT - 2, 2).faultAt("the n-th one comes before", RAW_AT + 1);
        ClassFile g = withText(224, 128, 128);
        g.set2(RAW_AT - 2, 1).faultAt("the n-th one comes before", RAW_AT);
    }

    private static void bytesFirst() {
        Due.by("but first the n BYTES must be there)");
        for (int first : new int[] {0, 128, 192, 224, 255}) {
            ClassFile f = ClassFile.start().set2(8, 4).u1(1).u2(2).u1(first);
            f.faultAt(first + ", and one BYTE is missing", f.size());
            ClassFile g = ClassFile.start().set2(8, 4).u1(1).u2(1).u1(first);
            g.faultAt(first + ", and none is missing", g.size() - 1);
        }
    }

    // 3: what ENTRIES name.

    private static void faultAtTag() {
        Due.by("The ENTRIES, by numbers (FAULT at the TAG)");
        ClassFile f = ClassFile.start();
        int at = f.size();
        f.one(8, 2);
        f.one(8, 2);
        f.endPlain(2).faultAt("the first of two", at);
        ClassFile g = new ClassFile();
        g.one(7, 3);
        g.one(8, 3);
        g.text("a;");
        g.endPlain(1).faultAt("the first ENTRY", 10);
        ClassFile h = ClassFile.start();
        h.text("x");
        at = h.size();
        h.one(16, 3);
        h.endPlain(2).faultAt("the last ENTRY", at);
    }

    /** ENTRIES of all TAGS but LONG and DOUBLE, each of which can be named: TAG t is number t. */
    private static ClassFile byTags() {
        ClassFile f = new ClassFile();
        f.text("A");
        f.text("I");
        f.four(3, 1);
        f.four(4, 1);
        f.eight(5, 1);
        f.one(7, 1);
        f.one(8, 1);
        f.two(9, 7, 13);
        f.two(10, 7, 12);
        f.two(11, 7, 12);
        f.two(12, 1, 14);
        f.two(12, 1, 2);
        f.text("()V");
        f.handle(1, 9);
        f.one(16, 14);
        return f;
    }

    private static final int CLASS = 7;
    private static final int FIELD = 9;
    private static final int METHOD = 10;
    private static final int FACE = 11;
    private static final int OF_METHOD = 12;
    private static final int OF_FIELD = 13;
    private static final int METHOD_TYPE = 14;
    private static final int NEXT = 17;

    private static void one(int tag, int named, boolean good) {
        ClassFile f = byTags();
        int at = f.size();
        f.one(tag, named);
        due("TAG " + tag + " names " + named, f.endPlain(CLASS), good, at);
    }

    private static void two(int tag, int first, int second, boolean good) {
        ClassFile f = byTags();
        int at = f.size();
        f.two(tag, first, second);
        due("TAG " + tag + " names " + first + ", " + second, f.endPlain(CLASS), good, at);
    }

    private static void noSuchEntry() {
        Due.by("\"names a TEXT\" is a FAULT, too, if there is no ENTRY with that number");
        for (int none : new int[] {0, 6, NEXT + 1, NEXT + 2, 255, 256, 65535}) {
            for (int tag : new int[] {7, 8, 16}) {
                one(tag, none, false);
            }
            two(9, none, OF_FIELD, false);
            two(9, CLASS, none, false);
            two(10, none, OF_METHOD, false);
            two(10, CLASS, none, false);
            two(11, CLASS, none, false);
            two(12, none, 2, false);
            two(12, 1, none, false);
            two(17, 0, none, false);
            two(18, 0, none, false);
            handle(1, none, false);
        }
    }

    private static void classNames() {
        Due.by("CLASS names a TEXT that is a CLASS NAME");
        for (int i = 1; i <= NEXT; i++) {
            one(7, i, i == 1 || i == 2 || i == METHOD_TYPE);
        }
        ClassFile f = ClassFile.start();
        int at = f.size();
        f.one(7, 4);
        f.text("a;b");
        f.endPlain(2).faultAt("no CLASS NAME, behind it", at);
    }

    private static void strings() {
        Due.by("STRING a TEXT");
        for (int i = 1; i <= NEXT; i++) {
            one(8, i, i == 1 || i == 2 || i == METHOD_TYPE);
        }
        ClassFile f = ClassFile.start();
        f.one(8, 4);
        f.text("");
        f.endPlain(2).isGood("an empty TEXT, behind it");
    }

    private static void types() {
        Due.by("TYPE a TEXT that is a METHOD DESCRIPTOR");
        for (int i = 1; i <= NEXT; i++) {
            one(16, i, i == METHOD_TYPE);
        }
    }

    private static void fields() {
        Due.by("FIELD, METHOD and FACE a CLASS and a NAMING, the second of which names a FIELD DESCRIPTOR for FIELD");
        for (int i = 1; i <= NEXT; i++) {
            two(9, i, OF_FIELD, i == CLASS);
            two(9, CLASS, i, i == OF_FIELD);
        }
    }

    private static void methodsAndFaces() {
        Due.by("else a METHOD DESCRIPTOR with a METHOD NAME that is not <clinit>");
        for (int tag = 10; tag <= 11; tag++) {
            for (int i = 1; i <= NEXT; i++) {
                two(tag, i, OF_METHOD, i == CLASS);
                two(tag, CLASS, i, i == OF_METHOD);
            }
            named(tag, "<clinit>", "()V", false);
            named(tag, "<clinit>", "()I", false);
            named(tag, "<init>", "()V", true);
            named(tag, "<init>", "()I", true);
            named(tag, "clinit", "()V", true);
            named(tag, "<clinit", "()V", false);
            named(tag, "a>", "()V", false);
        }
        named(9, "<clinit>", "I", true);
        named(9, "a>", "I", true);
    }

    /** An ENTRY with a NAMING of its own, which is sound. */
    private static void named(int tag, String name, String descriptor, boolean good) {
        ClassFile f = ClassFile.start();
        int naming = f.naming(name, descriptor);
        int at = f.size();
        f.two(tag, 2, naming);
        due("TAG " + tag + " of " + name + " " + descriptor, f.endPlain(2), good, at);
    }

    private static void namings() {
        Due.by("NAMING a TEXT that is a SIMPLE NAME or METHOD NAME, and a TEXT that is a FIELD DESCRIPTOR or "
                + "METHOD DESCRIPTOR");
        for (int i = 1; i <= NEXT; i++) {
            two(12, i, 2, i == 1 || i == 2 || i == METHOD_TYPE);
            two(12, 1, i, i == 2 || i == METHOD_TYPE);
        }
        ofNaming("", "I", false);
        ofNaming("a/b", "I", false);
        ofNaming("<>", "()V", true);
        ofNaming("a", "V", false);
        ofNaming("a", "", false);
    }

    private static void ofNaming(String name, String descriptor, boolean good) {
        ClassFile f = ClassFile.start();
        f.text(name);
        f.text(descriptor);
        int at = f.size();
        f.two(12, 3, 4);
        due("NAMING " + name + " " + descriptor, f.endPlain(2), good, at);
    }

    private static void dynamics() {
        Due.by("DYNAMIC a NAMING with a FIELD DESCRIPTOR, CALL one with a METHOD DESCRIPTOR (by their second numbers)");
        for (int i = 1; i <= NEXT; i++) {
            starting(17, i, i == OF_FIELD);
            starting(18, i, i == OF_METHOD);
        }
        ClassFile f = ClassFile.start();
        f.two(18, 0, f.naming("<clinit>", "()V"));
        bootstrapped(f).isGood("a CALL of <clinit>");
    }

    private static void starting(int tag, int naming, boolean good) {
        ClassFile f = byTags();
        int at = f.size();
        f.two(tag, 0, naming);
        due("TAG " + tag + " names " + naming, bootstrapped(f), good, at);
    }

    /** Ends a FILE with the CLASS A, giving it one bootstrap method. */
    private static ClassFile bootstrapped(ClassFile f) {
        int owner = f.cls("A");
        int handle = f.handle(5, f.two(10, owner, f.naming("m", "()V")));
        int name = f.text("BootstrapMethods");
        return f.endPool().all(0, owner, 0, 0, 0, 0, 1).attribute(name, 6).all(1, handle, 0);
    }

    private static void handle(int kind, int named, boolean good) {
        ClassFile f = byTags();
        int at = f.size();
        f.handle(kind, named);
        due("HANDLE " + kind + " of " + named, f.endPlain(CLASS), good, at);
    }

    private static void handles() {
        Due.by("HANDLE a kind 1 to 9, and for 1 to 4 a FIELD, for 5 and 8 a METHOD, for 6 and 7 a METHOD or "
                + "FACE, for 9 a FACE");
        for (int kind : new int[] {0, 1, 2, 3, 4, 5, 6, 7, 8, 9, 10, 11, 255}) {
            for (int named = 1; named <= NEXT; named++) {
                boolean onField = named == FIELD && kind >= 1 && kind <= 4;
                boolean onMethod = named == METHOD && kind >= 5 && kind <= 8;
                boolean onFace = named == FACE && (kind == 6 || kind == 7 || kind == 9);
                handle(kind, named, onField || onMethod || onFace);
            }
        }
    }

    /** The NAMING stands behind the ENTRY that names it: whose FAULT counts tells what was looked at. */
    private static void faultyNaming() {
        Due.by("What is wanted of a NAMING is looked at there, even if that itself is faulty.");
        faultyNaming(9, "a/b", "I", true);
        faultyNaming(9, "", "I", true);
        faultyNaming(9, "a", "V", false);
        faultyNaming(10, "a", "I", false);
        faultyNaming(10, "a/b", "()V", false);
        faultyNaming(11, "a", "()", false);
        faultyNaming(17, "a.b", "I", true);
        faultyNaming(17, "a.b", "()V", false);
        faultyNaming(18, "a.b", "()V", true);
        faultyNaming(18, "", "I", false);
    }

    private static void faultyNaming(int tag, String name, String descriptor, boolean good) {
        ClassFile f = ClassFile.start();
        int at = f.size();
        f.two(tag, 2, 6);
        f.text(name);
        f.text(descriptor);
        int namingAt = f.size();
        f.two(12, 4, 5);
        // Sound or not, a NAMING that is asked for too little has its own FAULT, or none.
        boolean sound = !name.isEmpty() && name.indexOf('/') < 0 && name.indexOf('.') < 0 && !descriptor.equals("V");
        due("TAG " + tag + " of " + name + " " + descriptor, f.endPlain(2), good && sound, good ? namingAt : at);
    }

    // Names and descriptors.

    private static void fieldNamed(String name, boolean good) {
        ClassFile f = ClassFile.start();
        f.text(name);
        f.text("I");
        f.endPool().all(0, 2, 0, 0, 1, 0);
        int at = f.size();
        due("FIELD " + name, f.all(3, 4, 0, 0, 0), good, at);
    }

    private static void simpleNames() {
        Due.by("A SIMPLE NAME has at least one CHARACTER, none of . ; [ /.");
        fieldNamed("", false);
        for (char c = 1; c < 128; c++) {
            boolean good = c != '.' && c != ';' && c != '[' && c != '/';
            fieldNamed("" + c, good);
            fieldNamed("a" + c, good);
            fieldNamed(c + "a", good);
        }
        fieldNamed("\u0000", true);
        fieldNamed("\uffff", true);
        fieldNamed("\u012e", true);
    }

    private static void methodNamed(String name, boolean good) {
        ClassFile f = ClassFile.start();
        f.text(name);
        f.text("()V");
        f.endPool().all(0, 2, 0, 0, 0, 1, 1024);
        int at = f.size();
        due("METHOD " + name, f.all(3, 4, 0, 0), good, at);
    }

    private static void methodNames() {
        Due.by("A METHOD NAME is a SIMPLE NAME without < and >, or <init>, or <clinit>.");
        methodNamed("", false);
        for (char c : ".;[/<>".toCharArray()) {
            methodNamed("" + c, false);
            methodNamed("a" + c, false);
            methodNamed(c + "a", false);
        }
        for (String name : new String[] {"a", "init", "clinit", "<init>", "<clinit>", "\u0000", "=", "]"}) {
            methodNamed(name, true);
        }
        for (String name : new String[] {"<init", "init>", "<Init>", "<init>>", "<<init>", "<clini>", "<clinit>a", "<>"}) {
            methodNamed(name, false);
        }
    }

    private static void fieldTyped(String descriptor, boolean good) {
        ClassFile f = ClassFile.start();
        f.text(descriptor);
        f.endPool().all(0, 2, 0, 0, 1, 0, 1);
        int at = f.size();
        due("FIELD of " + descriptor, f.all(3, 0, 0, 0), good, at);
    }

    private static void fieldDescriptors() {
        Due.by("A FIELD DESCRIPTOR is one of B C D F I J S Z, or L, a PATH and ;, or [ and a FIELD DESCRIPTOR.");
        fieldTyped("", false);
        for (char c = 1; c < 128; c++) {
            boolean good = "BCDFIJSZ".indexOf(c) >= 0;
            fieldTyped("" + c, good);
            fieldTyped("[" + c, good);
            fieldTyped("I" + c, false);
        }
        for (String good : new String[] {"La;", "La/b;", "[La;", "[[[[I", "LI;", "L(;", "LL;"}) {
            fieldTyped(good, true);
        }
        for (String wrong : new String[] {"L;", "La", "La;;", "L/;", "La/;", "L/a;", "La//b;", "L[I;", "La.b;", "[", "[[",
            "[L;", "II", "[II", "I[", "La;I", "[()V"}) {
            fieldTyped(wrong, false);
        }
        fieldTyped("[".repeat(300) + "I", true);
        fieldTyped("[".repeat(300), false);
        ClassFile f = new ClassFile();
        f.text("");
        f.cls("A");
        f.endPool().all(0, 3, 0, 0, 1, 0, 2);
        int at = f.size();
        f.all(1, 0, 0, 0).faultAt("FIELD of no CHARACTER, which is the first ENTRY", at);
    }

    /** As the name of this class, which must be a PATH. */
    private static void paths() {
        Due.by("A PATH is one SIMPLE NAME or more with / between them.");
        for (String good : new String[] {"a", "a/b", "a/b/c", "a/b/c/d", "I", "<init>", "(", "a)b/c"}) {
            path(good, true);
        }
        for (String wrong : new String[] {"/", "//", "/a", "a/", "a//b", "a/b/", "a/.", "a/;b", "a/[", "a.b/c"}) {
            path(wrong, false);
        }
    }

    private static void path(String name, boolean good) {
        ClassFile f = new ClassFile();
        f.text(name);
        int at = f.size();
        f.one(7, 1);
        due("PATH " + name, f.endPlain(2), good, at);
    }

    private static void typed(String descriptor, boolean good) {
        ClassFile f = ClassFile.start();
        f.text(descriptor);
        int at = f.size();
        f.one(16, 3);
        due("TYPE " + descriptor, f.endPlain(2), good, at);
    }

    private static void methodDescriptors() {
        Due.by("A METHOD DESCRIPTOR is (, any number of FIELD DESCRIPTORS, ), and a FIELD DESCRIPTOR or V.");
        for (String good : new String[] {"()V", "()I", "()[I", "()La;", "(I)V", "(IJ)V", "([I[[La;)[[J", "(La;Lb;)Lc;",
            "(L);)V", "()L);", "(" + "I".repeat(300) + ")V"}) {
            typed(good, true);
        }
        for (String wrong : new String[] {"", "(", ")", "()", "V", "I", "(V)V", "(IV)V", "()VV", "()VI", "()II", "()[V", "()[",
            "(I", "I)V", "(I)", "([)V", "(La)V", "(L;)V", "()L;", "()La", "((I)V", "(I))V", "( )V", "()v", "a()V"}) {
            typed(wrong, false);
        }
    }

    private static void ofClass(String name, boolean good) {
        ClassFile f = ClassFile.start();
        f.text(name);
        int at = f.size();
        f.one(7, 3);
        due("CLASS " + name, f.endPlain(2), good, at);
    }

    private static void classNameKinds() {
        Due.by("A CLASS NAME is a PATH, or a FIELD DESCRIPTOR that begins with [.");
        for (String good : new String[] {"a", "a/b", "I", "LI", "[I", "[[I", "[La;", "[La/b;"}) {
            ofClass(good, true);
        }
        for (String wrong : new String[] {"", "LI;", "La/b;", "[", "[a", "[V", "[L;", "[La", "[II", "[I;", "a[", "I["}) {
            ofClass(wrong, false);
        }
    }

    // 8 and 9: the end.

    private static void noByteLeft() {
        Due.by("There is no BYTE left.");
        ClassFile f = plain();
        int end = f.size();
        f.isGood("none");
        f.u1(0).faultAt("one", end);
        f.u1(0).faultAt("two", end);
    }

    private static void bootstrapNumbers() {
        Due.by("the first number of DYNAMIC and CALL is less than the number of bootstrap methods (FAULT at the TAG)");
        for (int tag = 17; tag <= 18; tag++) {
            for (int methods = 0; methods <= 2; methods++) {
                for (int first : new int[] {0, 1, 2, 3, 65535}) {
                    ClassFile f = started(methods);
                    int naming = f.naming("d", tag == 17 ? "I" : "()V");
                    int at = f.size();
                    f.two(tag, first, naming);
                    endStarted(f, methods);
                    due("TAG " + tag + " of " + first + ", of " + methods, f, first < methods, at);
                }
            }
        }
        ClassFile f = started(1);
        int naming = f.naming("d", "I");
        f.two(17, 0, naming);
        int at = f.size();
        f.two(17, 1, naming);
        f.two(17, 2, naming);
        endStarted(f, 1);
        f.faultAt("the first of two", at);
        ClassFile g = ClassFile.start();
        g.two(17, 0, g.naming("d", "I"));
        g.endPlain(2).faultAt("without the ATTRIBUTE", g.size() - 19);
    }

    private static ClassFile started(int methods) {
        ClassFile f = ClassFile.start();
        f.handle(5, f.two(10, 2, f.naming("m", "()V")));
        f.text("BootstrapMethods");
        return f;
    }

    private static void firstStarts() {
        Due.by("9. The ENTRIES, by numbers");
        for (int tag = 17; tag <= 18; tag++) {
            ClassFile f = new ClassFile();
            f.two(tag, 0, 4);
            f.cls("A");
            f.two(12, 2, 5);
            f.text(tag == 17 ? "I" : "()V");
            f.endPlain(3).faultAt("TAG " + tag + " as the first ENTRY", 10);
        }
    }

    private static void endStarted(ClassFile f, int methods) {
        f.endPool().all(0, 2, 0, 0, 0, 0, 1).attribute(8, 2 + 4 * methods).u2(methods);
        for (int i = 0; i < methods; i++) {
            f.all(7, 0);
        }
    }

    // Promises 5 and 6.

    private static void countAnswered() {
        Due.by("The FILE is READ: c.");
        Due.is("2 ENTRIES", () -> plain().load().read(), 3);
        ClassFile f = ClassFile.start();
        f.eight(5, 1);
        f.endPlain(2);
        Due.is("2 ENTRIES and a LONG", () -> f.load().read(), 5);
        ClassReader x = plain().load();
        Due.is("once", x::read, 3);
        Due.is("and again", x::read, 3);
    }

    private static void versionComesFirst() {
        Due.by("IllegalArgumentException with a FAULT, UnsupportedOperationException if the version is UNKNOWN "
                + "(it comes first, being the first FAULT)");
        Due.is("a FAULT", () -> plain().set2(8, 0).load().read(), FAULT);
        Due.is("an UNKNOWN version", () -> plain().set2(6, 70).load().read(), UNKNOWN);
        Due.is("both", () -> plain().set2(6, 70).set2(8, 0).load().read(), UNKNOWN);
        Due.is("a FAULT before it", () -> plain().set2(6, 70).set2(0, 0).load().read(), FAULT);
    }

    private static void nothingRead() {
        Due.by("then nothing is READ any more");
        ClassReader x = plain().read();
        x.patch(8, 1);
        Due.is("read() with a FAULT", x::read, FAULT);
        Due.is("whole(8)", () -> x.whole(8), "IllegalStateException");
        x.patch(8, 0);
        Due.is("the FILE alone does not help", () -> x.whole(8), "IllegalStateException");
        Due.is("read()", x::read, 3);
        Due.is("whole(8)", () -> x.whole(8), 2);
        x.patch(7, 70);
        Due.is("read() of an UNKNOWN version", x::read, UNKNOWN);
        Due.is("whole(8)", () -> x.whole(8), "IllegalStateException");
    }

    private static void latestReading() {
        Due.by("What is told later is of the latest READING, whatever becomes of the FILE.");
        ClassReader x = plain().read();
        Due.is("patch", () -> x.patch(13, 'B'), true);
        Due.is("the CHARACTER", () -> x.text(2, 0), (int) 'A');
        Due.is("in words", () -> x.told(2, 0), (int) 'A');
        Due.is("read()", x::read, 3);
        Due.is("the CHARACTER", () -> x.text(2, 0), (int) 'B');
        Due.is("cut", () -> x.cut(0), plain().size());
        Due.is("the CHARACTER", () -> x.text(2, 0), (int) 'B');
        Due.is("bytes", () -> x.bytes(0, 8), 8);
        Due.is("this", () -> x.whole(1), 2);
        Due.is("where()", x::where, -2);
    }

    /** An object that has read another FILE before answers as a new one does. */
    private static void nothingOfEarlier() {
        Due.by("What is told later is of the latest READING");
        ClassFile[] files = {rich(true), plain(), rich(false), byTags().endPlain(CLASS)};
        for (ClassFile before : files) {
            for (ClassFile f : files) {
                ClassReader x = before.read();
                x.cut(0);
                f.loadInto(x);
                Due.is("read()", x::read, f.next());
                Due.is("all that is told", () -> answers(x), answers(f.read()));
            }
        }
    }

    /** A FILE of many things; with a NestHost or NestMembers. */
    private static ClassFile rich(boolean host) {
        ClassFile f = ClassFile.start();
        f.text("I");
        f.four(3, 7);
        f.text("()V");
        f.handle(5, f.two(10, 2, f.two(12, 1, 5)));
        f.text("ConstantValue");
        f.text("Code");
        f.text("Exceptions");
        f.text(host ? "NestHost" : "NestMembers");
        f.text("EnclosingMethod");
        f.text("PermittedSubclasses");
        f.text("InnerClasses");
        f.text("BootstrapMethods");
        f.endPool().all(1024, 2, 2, 2, 2, 2).all(1, 1, 1, 3, 1).attribute(9, 2).u2(4);
        f.all(1, 1, 1, 5, 2).attribute(10, 21).all(0, 0).u4(1).u1(0).all(1, 0, 1, 0, 0, 0).attribute(11, 4).all(1, 2);
        f.u2(5).attribute(12, host ? 2 : 4);
        if (!host) {
            f.u2(1);
        }
        f.u2(2).attribute(13, 4).all(2, 6).attribute(14, 4).all(1, 2);
        return f.attribute(15, 10).all(1, 2, 2, 1, 9).attribute(16, 8).all(1, 8, 1, 4);
    }

    private static String answers(ClassReader x) {
        StringBuilder s = new StringBuilder();
        for (int what = 0; what <= 22; what++) {
            s.append(x.whole(what)).append(' ');
        }
        for (int i = 0; i < 20; i++) {
            for (int what = 0; what <= 3; what++) {
                s.append(x.entry(i, what)).append(' ');
            }
            s.append(x.number(i)).append(' ').append(x.text(i, -1)).append(' ').append(x.told(i, -1)).append(' ');
        }
        for (int what = 0; what <= 7; what++) {
            for (int k = 0; k <= 1; k++) {
                s.append(x.member(false, k, what)).append(' ').append(x.member(true, k, what)).append(' ');
            }
        }
        for (int what = 0; what <= 10; what++) {
            for (int k = -1; k <= 1; k++) {
                s.append(x.linkage(what, k)).append(' ');
            }
        }
        return s.toString();
    }

    private static void offsetOfFault() {
        Due.by("The OFFSET of the FAULT of the latest read");
        ClassReader x = plain().load();
        x.patch(0, 0);
        Due.is("read()", x::read, FAULT);
        Due.is("where()", x::where, 0);
        x.patch(0, 0xCA);
        Due.is("where() before another read", x::where, 0);
        x.patch(6, 1);
        Due.is("read()", x::read, UNKNOWN);
        Due.is("where()", x::where, 4);
        x.cut(0);
        Due.is("where() of a FILE that went", x::where, 4);
    }

    private static void noFault() {
        Due.by("NONE if there was none, or no read");
        ClassReader x = plain().load();
        Due.is("no read", x::where, -2);
        x.patch(0, 0);
        Due.is("read()", x::read, FAULT);
        x.patch(0, 0xCA);
        Due.is("read()", x::read, 3);
        Due.is("no FAULT", x::where, -2);
    }
}
