/** The boundary cases of read and where for the ATTRIBUTES: a test for each sentence. */
public final class AttributeEdgeTest {
    // The ENTRIES that base makes.
    private static final int NAME = 1;
    private static final int PLAIN = 2;
    private static final int ARRAY = 4;
    private static final int VOID = 5;
    private static final int NAMING = 6;
    private static final int METHOD = 7;
    private static final int HANDLE = 8;
    private static final int INT = 9;
    private static final int FLOAT = 10;
    private static final int LONG = 11;
    private static final int GAP = 12;
    private static final int DOUBLE = 13;
    private static final int STRING = 15;
    private static final int TYPE = 16;
    private static final int DYNAMIC = 19;
    private static final int CALL = 20;
    private static final int BOOTSTRAPS = 21;
    private static final int FIRST = 22;
    private static final int SECOND = 23;
    private static final int COUNT = 24;
    private static final int[] NUMBERS = {0, NAME, PLAIN, ARRAY, VOID, NAMING, METHOD, HANDLE, INT, FLOAT, LONG, GAP, DOUBLE,
        DOUBLE + 1, STRING, TYPE, DYNAMIC, CALL, FIRST, COUNT, COUNT + 1, 65535};
    private static final String[] OF_WHOLE = {"InnerClasses", "EnclosingMethod", "NestHost", "NestMembers",
        "PermittedSubclasses", "BootstrapMethods"};
    private static final String[] OTHER_DESCRIPTORS = {"[I", "[J", "[Z", "LA;", "LI;", "Ljava/lang/Object;",
        "Ljava/lang/Strin;", "Ljava/lang/String/a;", "[Ljava/lang/String;", "Ljava/lang/string;"};

    public static void main(String[] args) {
        heads();
        constantValues();
        codes();
        lists();
        whole();
        twice();
        Due.end();
    }

    private static void heads() {
        counts();
        names();
        lengths();
        justTheirLength();
        readOn();
        halfNumbers();
        allowed();
    }

    private static void constantValues() {
        values();
        otherDescriptors();
        otherDescriptorBytes();
    }

    private static void codes() {
        codeSizes();
        rowsComplete();
        rowStart();
        rowEnd();
        rowHandler();
        rowCatch();
        noneKnown();
    }

    private static void lists() {
        exceptions();
        classLists();
        innerClasses();
    }

    private static void whole() {
        enclosingMethod();
        nestHost();
        bootstraps();
        bootstrapEntries();
    }

    private static void twice() {
        secondTime();
        nestBoth();
        beforeTheLength();
    }

    /**
     * A pool with two names of ATTRIBUTES at its end, and a head without interfaces. DYNAMIC and CALL
     * want a bootstrap method, which each FILE here has, so far as it is read to its end.
     */
    private static ClassFile base(String first, String second) {
        ClassFile f = new ClassFile();
        f.cls("A");
        f.cls("[I");
        f.text("()V");
        f.two(12, NAME, VOID);
        f.two(10, PLAIN, NAMING);
        f.handle(5, METHOD);
        f.four(3, 1);
        f.four(4, 1);
        f.eight(5, 1);
        f.eight(6, 1);
        f.one(8, NAME);
        f.one(16, VOID);
        f.text("I");
        f.two(12, NAME, 17);
        f.two(17, 0, 18);
        f.two(18, 0, NAMING);
        f.text("BootstrapMethods");
        f.text(first);
        f.text(second);
        return f.endPool().all(0, PLAIN, 0, 0);
    }

    /** Behind this come the ATTRIBUTES of the whole: so many, and the one with the bootstrap method. */
    private static ClassFile whole(int more, String first, String second) {
        return base(first, second).all(0, 0, 1 + more);
    }

    private static ClassFile end(ClassFile f) {
        return f.attribute(BOOTSTRAPS, 6).all(1, HANDLE, 0);
    }

    /** Behind this come the ATTRIBUTES of the only FIELD; its descriptor is of the second name. */
    private static ClassFile field(String first, String descriptor) {
        return base(first, descriptor).all(1, 0, NAME, SECOND);
    }

    private static ClassFile endField(ClassFile f) {
        return end(f.all(0, 1));
    }

    private static ClassFile method(int flags, String first, String second) {
        return base(first, second).all(0, 1, flags, NAME, VOID);
    }

    private static ClassFile endMethod(ClassFile f) {
        return end(f.u2(1));
    }

    private static void due(String what, ClassFile f, boolean good, int at) {
        if (good) {
            f.isGood(what);
        } else {
            f.faultAt(what, at);
        }
    }

    private static boolean isClass(int x) {
        return x == PLAIN || x == ARRAY;
    }

    // How ATTRIBUTES begin.

    private static void counts() {
        Due.by("ATTRIBUTES are u2 n, and n times: u2 name: a TEXT");
        end(whole(0, "x", "y")).isGood("just the one");
        end(whole(1, "x", "y").attribute(FIRST, 0)).isGood("two");
        ClassFile f = end(whole(1, "x", "y"));
        f.faultAt("one too few", f.size());
        ClassFile g = end(whole(65534, "x", "y"));
        g.faultAt("one of 65535", g.size());
        endField(field("x", "I").u2(0)).isGood("none of a FIELD");
        endMethod(method(1024, "x", "y").u2(0)).isGood("none of a METHOD");
    }

    private static void names() {
        Due.by("u2 name: a TEXT; u4 length");
        for (int x : NUMBERS) {
            boolean good = x == NAME || x == VOID || x == FIRST;
            ClassFile f = whole(1, "x", "y");
            int at = f.size();
            due("of the whole, " + x, end(f.attribute(x, 0)), good, at);
            ClassFile g = field("x", "I").u2(1);
            int fieldAt = g.size();
            due("of a FIELD, " + x, endField(g.attribute(x, 0)), good, fieldAt);
            ClassFile h = method(1024, "x", "y").u2(1);
            int methodAt = h.size();
            due("of a METHOD, " + x, endMethod(h.attribute(x, 0)), good, methodAt);
        }
        end(whole(1, "x", "").attribute(SECOND, 0)).isGood("an empty TEXT");
        ClassFile f = whole(1, "x", "y").u2(INT);
        f.faultAt("a wrong name without a length", f.size() - 2);
    }

    private static void lengths() {
        Due.by("u4 length, so many BYTES are there (else FAULT behind the last one); and so many BYTES");
        for (int there = 0; there <= 3; there++) {
            ClassFile f = base("x", "y").all(0, 0, 1).attribute(FIRST, 3);
            for (int i = 0; i < there; i++) {
                f.u1(255);
            }
            if (there < 3) {
                f.faultAt("3, and " + there + " BYTES there", f.size());
            } else {
                // All are there, so the FAULT is the missing bootstrap method of the DYNAMIC.
                f.faultAt("3, and all there", dynamicAt());
            }
        }
        for (int length : new int[] {256, 65536, Integer.MAX_VALUE, Integer.MIN_VALUE, -1}) {
            ClassFile f = end(whole(1, "x", "NestHost").attribute(FIRST, length));
            f.faultAt("length " + length, f.size());
            ClassFile g = end(whole(1, "x", "NestHost").attribute(SECOND, length).u2(PLAIN));
            g.faultAt("length " + length + " of a KNOWN one", g.size());
        }
        for (int there = 0; there < 4; there++) {
            ClassFile f = whole(1, "x", "y").u2(FIRST);
            for (int i = 0; i < there; i++) {
                f.u1(0);
            }
            f.faultAt(there + " BYTES of the length", f.size());
        }
    }

    private static int dynamicAt() {
        ClassReader x = end(whole(0, "x", "y")).read();
        return x.entry(DYNAMIC, 3);
    }

    private static void justTheirLength() {
        Due.by("must take just their length (FAULT at the length, if they are read to their end and it is not so");
        for (int length = 0; length <= 4; length++) {
            ClassFile f = whole(1, "NestHost", "y").u2(FIRST);
            int at = f.size();
            f.u4(length).u2(PLAIN);
            for (int i = 2; i < length; i++) {
                f.u1(0);
            }
            due("NestHost of " + length, end(f), length == 2, at);
        }
        for (int length = 0; length <= 8; length++) {
            ClassFile f = method(1024, "Exceptions", "y").all(1, FIRST);
            int at = f.size();
            f.u4(length).all(2, PLAIN, PLAIN);
            for (int i = 6; i < length; i++) {
                f.u1(0);
            }
            due("Exceptions of " + length, endMethod(f), length == 6, at);
        }
        ClassFile f = field("ConstantValue", "I").all(1, FIRST);
        int at = f.size();
        endField(f.u4(4).all(INT, 0)).faultAt("ConstantValue of 4", at);
        ClassFile g = method(0, "Code", "y").all(1, FIRST);
        at = g.size();
        endMethod(g.u4(14).all(0, 0).u4(1).u1(0).all(0, 0).u1(0)).faultAt("Code of one more", at);
    }

    private static void readOn() {
        Due.by("they are read on whatever it is):");
        ClassFile f = whole(1, "NestHost", "y").attribute(FIRST, 0).u2(INT);
        f.faultAt("a FAULT behind its length", f.size() - 2);
        ClassFile g = whole(1, "NestHost", "y").attribute(FIRST, 0);
        g.faultAt("no BYTE behind its length", g.size());
        ClassFile h = whole(1, "NestHost", "y").attribute(FIRST, 1).u1(0);
        h.faultAt("one BYTE", h.size());
        ClassFile i = whole(1, "NestMembers", "y").attribute(FIRST, 2).all(2, PLAIN);
        i.faultAt("one of two CLASSES", i.size());
        ClassFile j = whole(1, "NestMembers", "y").attribute(FIRST, 2);
        int at = j.size() - 4;
        end(j.all(1, PLAIN)).faultAt("a CLASS behind its length", at);
    }

    /**
     * A wrong u2 is the FAULT where both its BYTES are there; with one of them or none it is behind the
     * last. The lengths are 0, so that the BYTES are not missing there already.
     */
    private static void halfNumbers() {
        Due.by("where BYTES are wanted that are not there, it is at the OFFSET behind the last one");
        half("the name of an ATTRIBUTE", whole(1, "x", "y"));
        half("the name of a FIELD's", field("x", "I").u2(1));
        half("the name of a METHOD's", method(0, "x", "y").u2(1));
        half("ConstantValue", field("ConstantValue", "I").u2(1).attribute(FIRST, 0));
        half("ConstantValue of [I", field("ConstantValue", "[I").u2(1).attribute(FIRST, 0));
        half("the CLASS of Exceptions", method(0, "Exceptions", "y").u2(1).attribute(FIRST, 0).u2(1));
        half("catch", oneRow().all(0, 1, 0));
        half("the name of a Code's", oneRow().all(0, 1, 0, 0, 1));
        half("the CLASS of InnerClasses", whole("InnerClasses").u2(1));
        half("the outer CLASS", whole("InnerClasses").all(1, PLAIN));
        half("the TEXT of InnerClasses", whole("InnerClasses").all(1, PLAIN, 0));
        half("the CLASS of EnclosingMethod", whole("EnclosingMethod"));
        half("the NAMING of EnclosingMethod", whole("EnclosingMethod").u2(PLAIN));
        half("the CLASS of NestHost", whole("NestHost"));
        half("the CLASS of NestMembers", whole("NestMembers").u2(1));
        half("the CLASS of PermittedSubclasses", whole("PermittedSubclasses").u2(1));
        half("the HANDLE", whole("BootstrapMethods").u2(1));
        half("a further ENTRY", whole("BootstrapMethods").all(1, HANDLE, 1));
    }

    /** What stands before the u2 is sound; no u2 may be 65535 there, nor begin so. */
    private static void half(String what, ClassFile before) {
        int at = before.size();
        before.faultAt(what + ", no BYTE", at);
        before.u1(255).faultAt(what + ", one BYTE", at + 1);
        before.u1(255).faultAt(what + ", both BYTES", at);
        before.u2(0).faultAt(what + ", and more", at);
    }

    /** Behind this comes what is in the ATTRIBUTE of the whole with this name. */
    private static ClassFile whole(String name) {
        return whole(1, name, "y").attribute(FIRST, 0);
    }

    /** Behind this comes the only row of a Code of one BYTE. */
    private static ClassFile oneRow() {
        return code().attribute(FIRST, 0).all(0, 0).u4(1).u1(0).u2(1);
    }

    private static void allowed() {
        Due.by("By their name, where they are allowed, these are KNOWN");
        for (String name : new String[] {"ConstantValue", "Code", "Exceptions", "Other", "nestHost", "NestHost ", "NestHos"}) {
            end(whole(2, name, "y").attribute(FIRST, 1).u1(255).attribute(FIRST, 0)).isGood(name + " of the whole");
        }
        for (String name : new String[] {"Code", "Exceptions", "constantValue"}) {
            endField(field(name, "I").u2(2).attribute(FIRST, 1).u1(255).attribute(FIRST, 0)).isGood(name + " of a FIELD");
        }
        for (String name : OF_WHOLE) {
            endField(field(name, "I").u2(2).attribute(FIRST, 1).u1(255).attribute(FIRST, 0)).isGood(name + " of a FIELD");
            endMethod(method(256, name, "y").u2(2).attribute(FIRST, 1).u1(255).attribute(FIRST, 0)).isGood(name + " of a METHOD");
        }
        endMethod(method(256, "ConstantValue", "y").u2(1).attribute(FIRST, 0)).isGood("ConstantValue of a METHOD");
    }

    // Of a FIELD.

    private static void values() {
        Due.by("ConstantValue: u2, an INT for a descriptor of B C I S Z, a LONG for J, FLOAT for F, DOUBLE for "
                + "D, STRING for Ljava/lang/String;");
        Object[][] all = {{"B", INT}, {"C", INT}, {"I", INT}, {"S", INT}, {"Z", INT}, {"J", LONG}, {"F", FLOAT}, {"D", DOUBLE},
            {"Ljava/lang/String;", STRING}};
        for (Object[] row : all) {
            for (int x : NUMBERS) {
                ClassFile f = field("ConstantValue", (String) row[0]).u2(1).attribute(FIRST, 2);
                int at = f.size();
                due(row[0] + " and " + x, endField(f.u2(x)), x == (Integer) row[1], at);
            }
        }
        for (int there = 0; there < 2; there++) {
            ClassFile f = field("ConstantValue", "I").u2(1).attribute(FIRST, there);
            for (int i = 0; i < there; i++) {
                f.u1(0);
            }
            f.faultAt(there + " of 2 BYTES", f.size());
        }
    }

    private static void otherDescriptors() {
        Due.by("for others it is a FAULT");
        for (String type : OTHER_DESCRIPTORS) {
            for (int x : NUMBERS) {
                ClassFile f = field("ConstantValue", type).u2(1).attribute(FIRST, 2);
                int at = f.size();
                endField(f.u2(x)).faultAt(type + " and " + x, at);
            }
        }
        endField(field("ConstantValue", "[I").u2(0)).isGood("without the ATTRIBUTE");
    }

    /** The u2 is a FAULT whatever it is, but only where it is there: both BYTES, one, none. */
    private static void otherDescriptorBytes() {
        Due.by("where BYTES are wanted that are not there, it is at the OFFSET behind the last one");
        for (String type : OTHER_DESCRIPTORS) {
            for (int length = 0; length <= 2; length++) {
                for (int b : new int[] {0, INT, 255}) {
                    String what = type + ", length " + length + ", BYTE " + b;
                    ClassFile both = field("ConstantValue", type).u2(1).attribute(FIRST, length);
                    int at = both.size();
                    both.u1(b).u1(b).faultAt(what + ": both BYTES", at);
                    ClassFile one = field("ConstantValue", type).u2(1).attribute(FIRST, length);
                    one.u1(b).faultAt(what + ": one BYTE", at + 1);
                    ClassFile none = field("ConstantValue", type).u2(1).attribute(FIRST, length);
                    none.faultAt(what + ": no BYTE", at);
                }
            }
        }
    }

    // Of a METHOD.

    private static ClassFile code() {
        return method(0, "Code", "y").u2(1);
    }

    private static void codeSizes() {
        Due.by("Code: u2, u2, u4 m from 1 to 65535, m BYTES");
        for (int size : new int[] {1, 2, 100}) {
            ClassFile f = code();
            int lengthAt = f.open(FIRST);
            f.all(65535, 65535).u4(size);
            for (int i = 0; i < size; i++) {
                f.u1(255);
            }
            endMethod(f.all(0, 0).close(lengthAt)).isGood(size + " BYTES");
        }
        for (int size : new int[] {0, 65536, -1, Integer.MIN_VALUE, Integer.MAX_VALUE}) {
            ClassFile f = code().attribute(FIRST, 12).all(0, 0);
            int at = f.size();
            endMethod(f.u4(size).all(0, 0)).faultAt(size + " BYTES", at);
            ClassFile g = code().attribute(FIRST, 8).all(0, 0);
            at = g.size();
            g.u4(size).faultAt(size + " BYTES, and nothing behind", at);
        }
        for (int size : new int[] {65535, 65534, 300}) {
            ClassFile f = endMethod(code().attribute(FIRST, 12).all(0, 0).u4(size).all(0, 0));
            f.faultAt(size + " BYTES that are not there", f.size());
        }
        ClassFile g = code().attribute(FIRST, 9).all(0, 0).u4(1).u1(0);
        g.faultAt("the last BYTE, and nothing behind", g.size());
    }

    /** A Code of 3 BYTES with a sound row and this one; where the FAULT is in this one, -1 if none is. */
    private static void row(int start, int end, int handler, int caught, int fault) {
        ClassFile f = code();
        int lengthAt = f.open(FIRST);
        f.all(0, 0).u4(3).u1(0).u1(0).u1(0).all(2, 0, 3, 2, 0);
        int at = f.size();
        endMethod(f.all(start, end, handler, caught).u2(0).close(lengthAt));
        due("row " + start + " " + end + " " + handler + " " + caught, f, fault < 0, at + fault);
    }

    private static void rowsComplete() {
        Due.by("n times u2 start, u2 end, u2 handler, u2 catch (when the first three were read");
        for (int there = 0; there < 6; there++) {
            ClassFile f = code().attribute(FIRST, 11 + there).all(0, 0).u4(1).u1(0).u2(1);
            for (int i = 0; i < there; i++) {
                f.u1(255);
            }
            f.faultAt(there + " of the first 6 BYTES", f.size());
        }
        ClassFile f = code().attribute(FIRST, 17).all(0, 0).u4(1).u1(0).all(1, 9, 9, 9);
        f.faultAt("the first three", f.size() - 6);
        ClassFile g = code().attribute(FIRST, 17).all(0, 0).u4(1).u1(0).all(1, 0, 1, 0);
        g.faultAt("without the fourth", g.size());
    }

    private static void rowStart() {
        Due.by("start less than end, with a FAULT at start");
        row(0, 1, 0, 0, -1);
        row(2, 3, 0, 0, -1);
        row(0, 0, 0, 0, 0);
        row(1, 1, 0, 0, 0);
        row(3, 3, 0, 0, 0);
        row(2, 1, 0, 0, 0);
        row(65535, 3, 0, 0, 0);
        row(4, 4, 9, 9, 0);
    }

    private static void rowEnd() {
        Due.by("end at most m, at end");
        row(0, 2, 0, 0, -1);
        row(0, 3, 0, 0, -1);
        row(0, 4, 0, 0, 2);
        row(3, 4, 0, 0, 2);
        row(0, 65535, 0, 0, 2);
        row(0, 4, 9, 9, 2);
    }

    private static void rowHandler() {
        Due.by("handler less than m, at handler");
        row(0, 3, 0, 0, -1);
        row(0, 3, 2, 0, -1);
        row(0, 3, 3, 0, 4);
        row(0, 3, 4, 0, 4);
        row(0, 3, 65535, 0, 4);
        row(0, 3, 3, 9, 4);
    }

    private static void rowCatch() {
        Due.by("catch 0 or a CLASS)");
        for (int x : NUMBERS) {
            row(0, 3, 2, x, x == 0 || isClass(x) ? -1 : 6);
        }
    }

    private static void noneKnown() {
        Due.by("ATTRIBUTES (none of them KNOWN)");
        for (String name : new String[] {"Code", "Exceptions", "ConstantValue", "NestHost", "NestMembers", "BootstrapMethods"}) {
            ClassFile f = method(0, "Code", name).u2(1);
            int lengthAt = f.open(FIRST);
            f.all(0, 0).u4(1).u1(0).all(0, 3).attribute(SECOND, 0).attribute(SECOND, 1).u1(255).attribute(FIRST, 0);
            endMethod(f.close(lengthAt)).isGood(name + " twice in a Code");
        }
        ClassFile f = method(0, "Code", "Exceptions").u2(2);
        int lengthAt = f.open(FIRST);
        f.all(0, 0).u4(1).u1(0).all(0, 1).attribute(SECOND, 0).close(lengthAt);
        endMethod(f.attribute(SECOND, 2).u2(0)).isGood("Exceptions in a Code and behind it");
        ClassFile g = code().attribute(FIRST, 19).all(0, 0).u4(1).u1(0).all(0, 1);
        int at = g.size();
        endMethod(g.attribute(INT, 0)).faultAt("a name that is no TEXT", at);
        ClassFile h = endMethod(code().attribute(FIRST, 19).all(0, 0).u4(1).u1(0).all(0, 1).attribute(FIRST, 255));
        h.faultAt("a length that is not there", h.size());
    }

    // Lists.

    private static void exceptions() {
        Due.by("Exceptions: u2 n, n times u2 a CLASS");
        endMethod(method(256, "Exceptions", "y").u2(1).attribute(FIRST, 2).u2(0)).isGood("none");
        for (int x : NUMBERS) {
            ClassFile f = method(256, "Exceptions", "y").u2(1).attribute(FIRST, 4).u2(1);
            int at = f.size();
            due("the only one " + x, endMethod(f.u2(x)), isClass(x), at);
            ClassFile g = method(256, "Exceptions", "y").u2(1).attribute(FIRST, 6).all(2, PLAIN);
            int lastAt = g.size();
            due("the last one " + x, endMethod(g.u2(x)), isClass(x), lastAt);
        }
        ClassFile f = method(256, "Exceptions", "y").u2(1).attribute(FIRST, 4).all(65535, PLAIN);
        f.faultAt("one of 65535", f.size());
    }

    private static void classLists() {
        Due.by("NestMembers, PermittedSubclasses: u2 n, n times u2 a CLASS");
        for (String name : new String[] {"NestMembers", "PermittedSubclasses"}) {
            end(whole(1, name, "y").attribute(FIRST, 2).u2(0)).isGood(name + ", none");
            for (int x : NUMBERS) {
                ClassFile f = whole(1, name, "y").attribute(FIRST, 4).u2(1);
                int at = f.size();
                due(name + ", the only one " + x, end(f.u2(x)), isClass(x), at);
                ClassFile g = whole(1, name, "y").attribute(FIRST, 6).all(2, ARRAY);
                int lastAt = g.size();
                due(name + ", the last one " + x, end(g.u2(x)), isClass(x), lastAt);
            }
            ClassFile f = whole(1, name, "y").attribute(FIRST, 4).all(65535, PLAIN);
            f.faultAt(name + ", one of 65535", f.size());
        }
    }

    private static void innerClasses() {
        Due.by("InnerClasses: u2 n, n times u2 a CLASS, u2 a CLASS or 0, u2 a TEXT or 0, u2 flags");
        end(whole(1, "InnerClasses", "y").attribute(FIRST, 2).u2(0)).isGood("none");
        for (int x : NUMBERS) {
            boolean isText = x == NAME || x == VOID || x == FIRST;
            boolean[] good = {isClass(x), isClass(x) || x == 0, isText || x == 0, true};
            for (int column = 0; column < 4; column++) {
                int[] row = {PLAIN, PLAIN, NAME, 65535};
                row[column] = x;
                ClassFile f = whole(1, "InnerClasses", "y").attribute(FIRST, 18).all(2, ARRAY, 0, 0, 0);
                int at = f.size() + 2 * column;
                due("column " + column + " is " + x, end(f.all(row)), good[column], at);
            }
        }
        ClassFile f = whole(1, "InnerClasses", "y").attribute(FIRST, 8).all(1, PLAIN, 0, 0);
        f.faultAt("without the flags", f.size());
    }

    // Of the whole.

    private static void enclosingMethod() {
        Due.by("EnclosingMethod: u2 a CLASS, u2 a NAMING or 0");
        for (int x : NUMBERS) {
            ClassFile f = whole(1, "EnclosingMethod", "y").attribute(FIRST, 4);
            int at = f.size();
            due("the CLASS " + x, end(f.all(x, 0)), isClass(x), at);
            ClassFile g = whole(1, "EnclosingMethod", "y").attribute(FIRST, 4);
            due("the NAMING " + x, end(g.all(PLAIN, x)), x == 0 || x == NAMING, at + 2);
        }
        ClassFile f = whole(1, "EnclosingMethod", "y").attribute(FIRST, 2).u2(PLAIN);
        f.faultAt("without the NAMING", f.size());
    }

    private static void nestHost() {
        Due.by("NestHost: u2 a CLASS");
        for (int x : NUMBERS) {
            ClassFile f = whole(1, "NestHost", "y").attribute(FIRST, 2);
            int at = f.size();
            due("the CLASS " + x, end(f.u2(x)), isClass(x), at);
        }
    }

    private static void bootstraps() {
        Due.by("BootstrapMethods: u2 n, n times u2 a HANDLE");
        for (int x : NUMBERS) {
            ClassFile f = base("x", "y").all(0, 0, 1).attribute(BOOTSTRAPS, 10).all(2, HANDLE, 0);
            int at = f.size();
            due("the last HANDLE " + x, f.all(x, 0), x == HANDLE, at);
        }
        ClassFile f = base("x", "y").all(0, 0, 1).attribute(BOOTSTRAPS, 2).u2(0);
        f.faultAt("none, though the DYNAMIC wants one", dynamicAt());
        ClassFile g = ClassFile.start();
        int name = g.text("BootstrapMethods");
        g.endPool().all(0, PLAIN, 0, 0, 0, 0, 1).attribute(name, 2).u2(0).isGood("none");
    }

    private static void bootstrapEntries() {
        Due.by("u2 m, m times u2 an ENTRY INT, FLOAT, LONG, DOUBLE, CLASS, STRING, HANDLE, TYPE or DYNAMIC");
        for (int x : NUMBERS) {
            boolean good = isClass(x) || x == INT || x == FLOAT || x == LONG || x == DOUBLE || x == STRING || x == HANDLE
                    || x == TYPE || x == DYNAMIC;
            ClassFile f = base("x", "y").all(0, 0, 1).attribute(BOOTSTRAPS, 8).all(1, HANDLE, 1);
            int at = f.size();
            due("the only ENTRY " + x, f.u2(x), good, at);
            ClassFile g = base("x", "y").all(0, 0, 1).attribute(BOOTSTRAPS, 10).all(1, HANDLE, 2, INT);
            due("the last ENTRY " + x, g.u2(x), good, at + 2);
        }
        ClassFile f = base("x", "y").all(0, 0, 1).attribute(BOOTSTRAPS, 8).all(1, HANDLE, 65535, INT);
        f.faultAt("one of 65535", f.size());
    }

    // A second time.

    /** What stands in a sound ATTRIBUTE of this name. */
    private static int[] inside(String name) {
        switch (name) {
            case "NestHost":
                return new int[] {PLAIN};
            case "EnclosingMethod":
                return new int[] {PLAIN, 0};
            case "BootstrapMethods":
                return new int[] {1, HANDLE, 0};
            default:
                return new int[] {0};
        }
    }

    private static ClassFile with(ClassFile f, int text, String name) {
        int[] numbers = inside(name);
        return f.attribute(text, 2 * numbers.length).all(numbers);
    }

    private static void secondTime() {
        Due.by("A KNOWN name a second time among the same ATTRIBUTES is a FAULT (at the name)");
        for (String name : OF_WHOLE) {
            ClassFile f = with(whole(2, name, name), FIRST, name);
            int at = f.size();
            with(f, FIRST, name).faultAt(name + " of one TEXT", at);
            ClassFile g = with(whole(2, name, name), FIRST, name);
            with(g, SECOND, name).faultAt(name + " of two TEXTS", at);
            ClassFile h = with(whole(3, name, "y"), FIRST, name).attribute(SECOND, 0);
            int thirdAt = h.size();
            with(h, FIRST, name).faultAt(name + ", another one between", thirdAt);
        }
        ClassFile f = field("ConstantValue", "I").u2(2).attribute(FIRST, 2).u2(INT);
        int at = f.size();
        endField(f.attribute(FIRST, 2).u2(INT)).faultAt("ConstantValue", at);
        ClassFile g = method(1024, "Exceptions", "y").u2(2).attribute(FIRST, 2).u2(0);
        at = g.size();
        endMethod(g.attribute(FIRST, 2).u2(0)).faultAt("Exceptions", at);
        ClassFile h = code().attribute(FIRST, 13).all(0, 0).u4(1).u1(0).all(0, 0);
        at = h.size();
        h.set2(at - 21, 2);
        endMethod(h.attribute(FIRST, 13).all(0, 0).u4(1).u1(0).all(0, 0)).faultAt("Code", at);
        apart();
    }

    /** Names that are not among the same ATTRIBUTES, or not KNOWN. */
    private static void apart() {
        ClassFile f = base("Exceptions", "b").all(0, 2, 256, NAME, VOID, 1).attribute(FIRST, 2).u2(0);
        f.all(256, SECOND, VOID, 1).attribute(FIRST, 2).u2(0);
        endMethod(f).isGood("Exceptions of two METHODS");
        end(whole(3, "x", "y").attribute(FIRST, 0).attribute(FIRST, 0).attribute(SECOND, 0)).isGood("another name twice");
        for (String name : OF_WHOLE) {
            ClassFile g = with(base(name, "y").all(0, 0, name.equals("BootstrapMethods") ? 3 : 4).attribute(SECOND, 0), FIRST, name);
            g.attribute(SECOND, 0);
            (name.equals("BootstrapMethods") ? g : end(g)).isGood("another name before and behind " + name);
        }
        endField(field("ConstantValue", "I").u2(3).attribute(SECOND, 0).attribute(FIRST, 2).u2(INT).attribute(SECOND, 0))
                .isGood("another name before and behind ConstantValue");
        endMethod(method(256, "Exceptions", "y").u2(3).attribute(SECOND, 0).attribute(FIRST, 2).u2(0).attribute(SECOND, 0))
                .isGood("another name before and behind Exceptions");
        endMethod(method(0, "Code", "y").u2(3).attribute(SECOND, 0).attribute(FIRST, 13).all(0, 0).u4(1).u1(0).all(0, 0)
                .attribute(SECOND, 0)).isGood("another name before and behind Code");
    }

    private static void nestBoth() {
        Due.by("so is NestHost beside NestMembers (at the later name)");
        ClassFile f = with(whole(2, "NestHost", "NestMembers"), FIRST, "NestHost");
        int at = f.size();
        end(with(f, SECOND, "NestMembers")).faultAt("NestMembers behind NestHost", at);
        ClassFile g = with(whole(2, "NestHost", "NestMembers"), SECOND, "NestMembers");
        end(with(g, FIRST, "NestHost")).faultAt("NestHost behind NestMembers", at);
        ClassFile h = with(whole(2, "NestHost", "PermittedSubclasses"), FIRST, "NestHost");
        end(with(h, SECOND, "PermittedSubclasses")).isGood("NestHost beside another");
    }

    private static void beforeTheLength() {
        Due.by("both before the length is looked at");
        for (String name : new String[] {"NestHost", "NestMembers"}) {
            for (int length : new int[] {0, 255, -1}) {
                ClassFile f = with(whole(2, "NestHost", name), FIRST, "NestHost");
                int at = f.size();
                f.attribute(SECOND, length).faultAt(name + " behind NestHost, length " + length, at);
            }
            for (int there = 0; there < 4; there++) {
                ClassFile f = with(whole(2, "NestHost", name), FIRST, "NestHost");
                int at = f.size();
                f.u2(SECOND);
                for (int i = 0; i < there; i++) {
                    f.u1(0);
                }
                f.faultAt(name + " behind NestHost, " + there + " BYTES of a length", at);
            }
        }
    }
}
