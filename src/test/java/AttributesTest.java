/** Promises 5 and 6, the FAULTS of ATTRIBUTES. */
public final class AttributesTest {
    private static final int PLAIN = 2;
    private static final int ARRAY = 4;
    private static final int NAME = 5;
    private static final int TYPE_I = 6;
    private static final int TYPE_V = 7;
    private static final int NAMING = 8;
    private static final int METHOD = 9;
    private static final int HANDLE = 10;
    private static final int INT = 11;
    private static final int FLOAT = 12;
    private static final int LONG = 13;
    private static final int DOUBLE = 15;
    private static final int STRING = 17;
    private static final int TYPE = 18;
    private static final int FIELD_NAMING = 19;
    private static final int DYNAMIC = 20;
    private static final int FIRST_NAME = 21;
    private static final int SECOND_NAME = 22;
    private static final int[] TAGGED = {PLAIN, ARRAY, NAMING, METHOD, HANDLE, INT, FLOAT, LONG, DOUBLE, STRING, TYPE,
        DYNAMIC, FIRST_NAME, 0, LONG + 1, 23, 65535};

    public static void main(String[] args) {
        names();
        lengths();
        constantValues();
        codes();
        exceptions();
        handlers();
        innerCode();
        wholeLists();
        innerClasses();
        enclosing();
        bootstraps();
        twice();
        elsewhere();
        Due.end();
    }

    /** A pool with these two names at its end. */
    private static ClassFile pool(String first, String second, String fieldType) {
        ClassFile f = new ClassFile();
        f.cls("A");
        f.cls("[I");
        f.text("f");
        f.text(fieldType);
        f.text("()V");
        f.two(12, NAME, TYPE_V);
        f.two(10, PLAIN, NAMING);
        f.handle(5, METHOD);
        f.four(3, 1);
        f.four(4, 1);
        f.eight(5, 1);
        f.eight(6, 1);
        f.one(8, NAME);
        f.one(16, TYPE_V);
        f.two(12, NAME, TYPE_I);
        f.two(17, 0, FIELD_NAMING);
        f.text(first);
        f.text(second);
        return f.endPool().all(33, PLAIN, 0, 0);
    }

    /** Ready for the ATTRIBUTES of the whole; without bootstrap methods DYNAMIC is made a FLOAT. */
    private static ClassFile whole(String first, String second) {
        ClassFile f = pool(first, second, "I").all(0, 0);
        if (!first.equals("BootstrapMethods")) {
            noDynamic(f);
        }
        return f;
    }

    private static void noDynamic(ClassFile f) {
        byte[] file = f.bytes();
        for (int i = 10; i + 4 < file.length; i++) {
            if (file[i] == 17 && file[i + 1] == 0 && file[i + 2] == 0 && file[i + 4] == FIELD_NAMING) {
                f.set2(i, 4 << 8);
            }
        }
    }

    private static ClassFile field(String first, String second, String type) {
        ClassFile f = pool(first, second, type).all(1, 0, NAME, TYPE_I);
        noDynamic(f);
        return f;
    }

    private static ClassFile method(String first, String second, int flags) {
        ClassFile f = pool(first, second, "I").all(0, 1, flags, NAME, TYPE_V);
        noDynamic(f);
        return f;
    }

    private static void due(String what, ClassFile f, boolean good, int at) {
        if (good) {
            f.isGood(what);
        } else {
            f.faultAt(what, at);
        }
    }

    private static void names() {
        for (int name : TAGGED) {
            ClassFile f = whole("a/b", "");
            int at = f.u2(1).size();
            f.attribute(name, 1).u1(7);
            due("name " + name, f, name == FIRST_NAME, at);
            ClassFile g = field("x", "", "I");
            at = g.u2(1).size();
            g.attribute(name, 0).all(0, 0);
            due("name " + name + " of a FIELD", g, name == FIRST_NAME, at);
            ClassFile h = method("x", "", 1024);
            at = h.u2(1).size();
            h.attribute(name, 0).u2(0);
            due("name " + name + " of a METHOD", h, name == FIRST_NAME, at);
        }
        whole("x", "").u2(2).attribute(FIRST_NAME, 0).attribute(FIRST_NAME, 2).u2(0).isGood("an unknown name twice");
        whole("x", "").u2(1).attribute(SECOND_NAME, 0).isGood("an empty name");
    }

    private static void lengths() {
        for (int length : new int[] {3, 4, 255, 65536, Integer.MAX_VALUE, Integer.MIN_VALUE, -1}) {
            ClassFile f = whole("x", "NestHost").u2(1).attribute(FIRST_NAME, length).u2(0);
            f.faultAt("length " + length, f.size());
            ClassFile g = whole("x", "NestHost").u2(1).attribute(SECOND_NAME, length).u2(0);
            g.faultAt("length " + length + " of a KNOWN one", g.size());
        }
        ClassFile f = whole("NestHost", "").u2(1);
        int at = f.size() + 2;
        f.attribute(FIRST_NAME, 1).u2(PLAIN).faultAt("too short a length", at);
        ClassFile g = whole("NestHost", "").u2(1);
        g.attribute(FIRST_NAME, 3).u2(PLAIN).u1(0).faultAt("too long a length", at);
        ClassFile h = whole("NestHost", "").u2(1);
        h.attribute(FIRST_NAME, 0).u2(PLAIN).faultAt("no length, but read on", at);
        ClassFile i = whole("NestHost", "").u2(1);
        i.attribute(FIRST_NAME, 1).u2(INT).faultAt("what is inside comes before the length", at + 4);
        ClassFile j = whole("NestHost", "").u2(1);
        j.attribute(FIRST_NAME, 0).faultAt("what is inside is missing", at + 4);
        ClassFile k = whole("NestHost", "").u2(1);
        k.attribute(FIRST_NAME, 1).u1(0).faultAt("half of what is inside", at + 5);
    }

    private static void constantValues() {
        Object[][] all = {{"B", INT}, {"C", INT}, {"I", INT}, {"S", INT}, {"Z", INT}, {"J", LONG}, {"F", FLOAT},
            {"D", DOUBLE}, {"Ljava/lang/String;", STRING}, {"[I", 0}, {"[J", 0}, {"LI;", 0}, {"Ljava/lang/Strings;", 0},
            {"Ljava/lang/Object;", 0}, {"[Ljava/lang/String;", 0}};
        for (Object[] row : all) {
            for (int value : TAGGED) {
                ClassFile f = field("ConstantValue", "", (String) row[0]).u2(1).attribute(FIRST_NAME, 2);
                int at = f.size();
                f.u2(value).all(0, 0);
                boolean good = value == (Integer) row[1] && value != 0 || row[1].equals(FLOAT) && value == DYNAMIC;
                due("ConstantValue " + value + " of " + row[0], f, good, at);
            }
        }
        ClassFile f = field("ConstantValue", "", "I").u2(1);
        int at = f.size() + 2;
        f.attribute(FIRST_NAME, 3).u2(INT).u1(0).all(0, 0).faultAt("ConstantValue of three BYTES", at);
    }

    /** A Code of so many BYTES, without rows and ATTRIBUTES. */
    private static ClassFile code(int flags, int size) {
        ClassFile f = method("Code", "Exceptions", flags).u2(1).attribute(FIRST_NAME, 12 + size).all(1, 2).u4(size);
        for (int i = 0; i < size; i++) {
            f.u1(255);
        }
        return f;
    }

    private static void codes() {
        code(1, 1).all(0, 0, 0).isGood("Code of 1 BYTE");
        code(1, 70).all(0, 0, 0).isGood("Code of 70 BYTES");
        ClassFile f = code(1, 0).all(0, 0, 0);
        f.faultAt("Code of no BYTE", f.size() - 10);
        for (int size : new int[] {65536, -1, Integer.MIN_VALUE, Integer.MAX_VALUE}) {
            ClassFile g = method("Code", "", 1).u2(1).attribute(FIRST_NAME, 12).all(0, 0);
            int at = g.size();
            g.u4(size).all(0, 0, 0).faultAt("Code of " + size, at);
        }
        for (int size : new int[] {7, 65535}) {
            ClassFile g = method("Code", "", 1).u2(1).attribute(FIRST_NAME, 12).all(0, 0);
            g.u4(size).all(0, 0, 0).faultAt("Code of " + size + " BYTES that are not there", g.size());
        }
        ClassFile h = method("Code", "", 1).u2(1);
        int at = h.size() + 2;
        h.attribute(FIRST_NAME, 14).all(1, 2).u4(1).u1(0).all(0, 0, 0).faultAt("Code of a wrong length", at);
    }

    private static void exceptions() {
        method("Exceptions", "", 1024).u2(1).attribute(FIRST_NAME, 2).all(0, 0).isGood("no Exceptions");
        method("Exceptions", "", 1024).u2(1).attribute(FIRST_NAME, 6).all(2, PLAIN, ARRAY, 0).isGood("two Exceptions");
        for (int x : TAGGED) {
            ClassFile f = method("Exceptions", "", 1024).u2(1).attribute(FIRST_NAME, 6).all(2, PLAIN);
            int at = f.size();
            f.all(x, 0);
            due("Exceptions names " + x, f, x == PLAIN || x == ARRAY, at);
        }
        ClassFile f = method("Exceptions", "", 1024).u2(1);
        int at = f.size() + 2;
        f.attribute(FIRST_NAME, 6).all(1, PLAIN, 0).faultAt("Exceptions of a wrong length", at);
    }

    private static void handlers() {
        // start, end, handler, catch; where the FAULT is in the row, or -1.
        int[][] rows = {{0, 3, 2, 0, -1}, {0, 1, 0, PLAIN, -1}, {2, 3, 2, ARRAY, -1}, {1, 1, 0, 0, 0}, {2, 1, 0, 0, 0},
            {0, 0, 0, 0, 0}, {0, 4, 0, 0, 2}, {3, 4, 0, 0, 2}, {4, 3, 9, 9, 0}, {0, 3, 3, 0, 4}, {0, 65535, 3, 0, 2},
            {0, 3, 65535, INT, 4}, {0, 3, 2, INT, 6}, {0, 3, 2, 1, 6}, {0, 3, 2, 65535, 6}, {0, 3, 2, LONG + 1, 6},
            {65535, 0, 0, 0, 0}, {0, 65535, 65535, 65535, 2}};
        for (int[] row : rows) {
            ClassFile f = method("Code", "", 1).u2(1);
            int lengthAt = f.open(FIRST_NAME);
            f.all(0, 0).u4(3).u1(0).u1(0).u1(0).all(2, 0, 1, 0, 0);
            int at = f.size();
            f.all(row[0], row[1], row[2], row[3], 0).close(lengthAt).u2(0);
            due("row " + java.util.Arrays.toString(row), f, row[4] < 0, at + row[4]);
        }
        // The first three are read before they are looked at.
        ClassFile f = method("Code", "", 1).u2(1).attribute(FIRST_NAME, 9 + 2 + 4).all(0, 0).u4(1).u1(0);
        f.all(1, 5, 4).faultAt("a row that ends too early", f.size());
    }

    /** In a Code no ATTRIBUTE is KNOWN, not even a second Code. */
    private static void innerCode() {
        ClassFile g = method("Code", "Exceptions", 1).u2(1);
        int lengthAt = g.open(FIRST_NAME);
        g.all(0, 0).u4(1).u1(0).all(0, 3).attribute(FIRST_NAME, 0).attribute(FIRST_NAME, 1).u1(9);
        g.attribute(SECOND_NAME, 3).u1(1).u2(1).close(lengthAt).u2(0);
        g.isGood("ATTRIBUTES of a Code");
        ClassFile h = method("Code", "Exceptions", 1).u2(1);
        lengthAt = h.open(FIRST_NAME);
        h.all(0, 0).u4(1).u1(0).all(0, 1);
        int at = h.size();
        h.attribute(INT, 0).close(lengthAt).u2(0).faultAt("an ATTRIBUTE of a Code without a name", at);
        ClassFile i = method("Code", "Exceptions", 1).u2(1);
        lengthAt = i.open(FIRST_NAME);
        i.all(0, 0).u4(1).u1(0).all(0, 1).attribute(SECOND_NAME, 9).close(lengthAt).u2(0);
        i.faultAt("an ATTRIBUTE of a Code that is too long", i.size());
    }

    private static void wholeLists() {
        for (String name : new String[] {"NestMembers", "PermittedSubclasses"}) {
            whole(name, "").u2(1).attribute(FIRST_NAME, 2).u2(0).isGood("an empty " + name);
            for (int x : TAGGED) {
                ClassFile f = whole(name, "").u2(1).attribute(FIRST_NAME, 6).all(2, PLAIN);
                int at = f.size();
                due(name + " names " + x, f.u2(x), x == PLAIN || x == ARRAY, at);
            }
            ClassFile f = whole(name, "").u2(1).attribute(FIRST_NAME, 4).all(2, PLAIN);
            f.faultAt(name + " with one CLASS too few", f.size());
        }
        for (int x : TAGGED) {
            ClassFile f = whole("NestHost", "").u2(1).attribute(FIRST_NAME, 2);
            int at = f.size();
            due("NestHost names " + x, f.u2(x), x == PLAIN || x == ARRAY, at);
        }
    }

    private static void innerClasses() {
        whole("InnerClasses", "").u2(1).attribute(FIRST_NAME, 2).u2(0).isGood("empty InnerClasses");
        for (int x : TAGGED) {
            boolean isClass = x == PLAIN || x == ARRAY;
            for (int column = 0; column < 4; column++) {
                int[] row = {PLAIN, ARRAY, NAME, 0};
                row[column] = x;
                ClassFile f = whole("InnerClasses", "").u2(1).attribute(FIRST_NAME, 18).all(2, ARRAY, 0, 0, 65535);
                int at = f.size() + 2 * column;
                boolean good = column == 0 ? isClass : column == 1 ? isClass || x == 0
                        : column == 3 || x == FIRST_NAME || x == 0;
                due("InnerClasses names " + x + " in column " + column, f.all(row), good, at);
            }
        }
    }

    private static void enclosing() {
        for (int x : TAGGED) {
            ClassFile f = whole("EnclosingMethod", "").u2(1).attribute(FIRST_NAME, 4);
            int at = f.size();
            due("EnclosingMethod names " + x, f.all(x, NAMING), x == PLAIN || x == ARRAY, at);
            ClassFile g = whole("EnclosingMethod", "").u2(1).attribute(FIRST_NAME, 4);
            due("EnclosingMethod in " + x, g.all(PLAIN, x), x == NAMING || x == 0, at + 2);
        }
        whole("EnclosingMethod", "").u2(1).attribute(FIRST_NAME, 4).all(PLAIN, FIELD_NAMING).isGood("in a FIELD");
    }

    private static void bootstraps() {
        for (int x : TAGGED) {
            ClassFile f = whole("BootstrapMethods", "").u2(1).attribute(FIRST_NAME, 10).all(2, HANDLE, 0);
            int at = f.size();
            due("BootstrapMethods names " + x, f.all(x, 0), x == HANDLE, at);
            ClassFile g = whole("BootstrapMethods", "").u2(1).attribute(FIRST_NAME, 10).all(1, HANDLE, 2, INT);
            at = g.size();
            boolean good = x != NAMING && x != METHOD && x != FIRST_NAME && x != 0 && x != LONG + 1 && x < 23;
            due("a bootstrap method names " + x, g.u2(x), good, at);
        }
        ClassFile f = whole("BootstrapMethods", "").u2(1);
        int at = f.size() + 2;
        f.attribute(FIRST_NAME, 5).all(1, HANDLE, 0).faultAt("BootstrapMethods of a wrong length", at);
    }

    private static void twice() {
        String[] known = {"InnerClasses", "NestMembers", "PermittedSubclasses"};
        for (String name : known) {
            ClassFile f = whole(name, name).u2(2).attribute(FIRST_NAME, 2).u2(0);
            int at = f.size();
            f.attribute(SECOND_NAME, 99).faultAt(name + " twice, before its length", at);
        }
        ClassFile f = whole("NestHost", "NestMembers").u2(2).attribute(FIRST_NAME, 2).u2(PLAIN);
        int at = f.size();
        f.attribute(SECOND_NAME, 2).u2(0).faultAt("NestMembers beside NestHost", at);
        ClassFile g = whole("NestHost", "NestMembers").u2(2).attribute(SECOND_NAME, 2).u2(0);
        g.attribute(FIRST_NAME, -1).u2(PLAIN).faultAt("NestHost beside NestMembers", at);
        ClassFile h = whole("EnclosingMethod", "NestHost").u2(3).attribute(FIRST_NAME, 4).all(PLAIN, 0);
        h.attribute(SECOND_NAME, 2).u2(PLAIN);
        at = h.size();
        h.u2(FIRST_NAME).faultAt("EnclosingMethod twice, without a length", at);
        ClassFile i = whole("BootstrapMethods", "NestHost").u2(2).attribute(FIRST_NAME, 6).all(1, HANDLE, 0);
        at = i.size();
        i.attribute(FIRST_NAME, 2).u2(0).faultAt("BootstrapMethods twice", at);
        ClassFile j = field("ConstantValue", "ConstantValue", "I").u2(2).attribute(FIRST_NAME, 2).u2(INT);
        at = j.size();
        j.attribute(SECOND_NAME, 2).u2(INT).all(0, 0).faultAt("ConstantValue twice", at);
        ClassFile k = method("Exceptions", "Code", 1024).u2(2).attribute(FIRST_NAME, 2).u2(0);
        at = k.size();
        k.attribute(FIRST_NAME, 2).all(0, 0).faultAt("Exceptions twice", at);
        ClassFile m = code(1, 1).all(0, 0);
        m.set2(m.size() - 21, 2);
        at = m.size();
        m.attribute(FIRST_NAME, 13).faultAt("Code twice", at);
        otherBytes();
    }

    /** A KNOWN name that is spelled by other BYTES is KNOWN, too. */
    private static void otherBytes() {
        ClassFile f = new ClassFile();
        int self = f.cls("A");
        int name = f.text("NestHost");
        int other = f.rawText(193, 142, 'e', 's', 't', 'H', 'o', 's', 't');
        f.endPool().all(33, self, 0, 0, 0, 0, 2).attribute(name, 2).u2(self);
        int at = f.size();
        f.attribute(other, 0).faultAt("NestHost twice, in other BYTES", at);
    }

    /** Where they are not allowed, these names are not KNOWN: anything stands inside, and twice. */
    private static void elsewhere() {
        for (String name : new String[] {"Code", "Exceptions", "ConstantValue"}) {
            whole(name, "").u2(2).attribute(FIRST_NAME, 1).u1(9).attribute(FIRST_NAME, 0).isGood(name + " of the whole");
        }
        for (String name : new String[] {"Code", "Exceptions", "InnerClasses", "EnclosingMethod", "NestHost",
            "NestMembers", "PermittedSubclasses", "BootstrapMethods"}) {
            ClassFile f = field(name, "", "I").u2(2).attribute(FIRST_NAME, 1).u1(9).attribute(FIRST_NAME, 0);
            f.all(0, 0).isGood(name + " of a FIELD");
            if (!name.equals("Code") && !name.equals("Exceptions")) {
                ClassFile g = method(name, "", 256).u2(2).attribute(FIRST_NAME, 1).u1(9).attribute(FIRST_NAME, 0);
                g.u2(0).isGood(name + " of a METHOD");
            }
        }
        method("ConstantValue", "", 1024).u2(1).attribute(FIRST_NAME, 0).u2(0).isGood("ConstantValue of a METHOD");
        whole("nestHost", "NestHosts").u2(2).attribute(FIRST_NAME, 0).attribute(SECOND_NAME, 0).isGood("almost KNOWN");
    }
}
