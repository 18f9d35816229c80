/** Promises 5 and 6, parts 4 to 6 of the order of FAULTS: the head, the FIELDS and the METHODS. */
public final class ShapeTest {
    // The ENTRIES that base makes.
    private static final int TEXT_A = 1;
    private static final int PLAIN = 2;
    private static final int ARRAY = 4;
    private static final int NAME_F = 5;
    private static final int TYPE_I = 6;
    private static final int TYPE_V = 7;
    private static final int INIT = 8;
    private static final int CLINIT = 9;
    private static final int CODE = 10;
    private static final int ODD_NAME = 11;
    private static final int SAME_F = 12;
    private static final int TYPE_II = 13;
    private static final int NO_NAME = 14;
    private static final int TYPE_J = 15;
    private static final int SAME_V = 16;
    private static final int EMPTY = 17;
    private static final int RETURNS = 18;
    private static final int INT = 19;
    private static final int ENDS_V = 20;

    public static void main(String[] args) {
        wholeFlags();
        classes();
        fieldFlags();
        fieldNames();
        sameFields();
        methodFlags();
        methodNames();
        sameMethods();
        codes();
        Due.end();
    }

    private static ClassFile base() {
        ClassFile f = new ClassFile();
        f.cls("A");
        f.cls("[I");
        f.text("f");
        f.text("I");
        f.text("()V");
        f.text("<init>");
        f.text("<clinit>");
        f.text("Code");
        f.text("x<y");
        // The same CHARACTERS as another TEXT, in other BYTES.
        f.rawText(193, 166);
        f.text("(I)I");
        f.text("f/g");
        f.text("J");
        f.rawText(40, 192, 169, 86);
        f.text("");
        f.text("(LV;)[LV;");
        f.four(3, 1);
        f.text("(J)V");
        return f.endPool();
    }

    private static void head(String what, boolean good, int at, int... numbers) {
        ClassFile f = base();
        int from = f.size();
        f.all(numbers).all(0, 0, 0);
        if (good) {
            f.isGood(what);
        } else {
            f.faultAt(what, from + at);
        }
    }

    private static void wholeFlags() {
        int[] sound = {0, 1, 16, 1024, 33, 512 + 1024, 65535 - 16, 65535 - 512 - 1024, 65535 - 512 - 16};
        int[] wrong = {512, 512 + 16, 512 + 1024 + 16, 1024 + 16, 65535, 65535 - 512, 65535 - 1024};
        for (int flags : sound) {
            head("flags " + flags, true, 0, flags, PLAIN, PLAIN, 0);
        }
        for (int flags : wrong) {
            head("flags " + flags, false, 0, flags, PLAIN, PLAIN, 0);
            head("flags " + flags + " and more that is wrong", false, 0, flags, 0, 0, 1, 0);
        }
    }

    private static void classes() {
        int[] wrong = {TEXT_A, ARRAY, NAME_F, INT, 21, 65535};
        for (int x : wrong) {
            head("this " + x, false, 2, 0, x, 0, 0);
            head("super " + x, false, 4, 0, PLAIN, x, 0);
            head("interface " + x, false, 8, 0, PLAIN, PLAIN, 1, x);
            head("second interface " + x, false, 10, 0, PLAIN, PLAIN, 3, PLAIN, x, 0);
        }
        head("this 0", false, 2, 0, 0, 0, 0);
        head("super 0", true, 0, 0, PLAIN, 0, 0);
        head("super 0 of an INTERFACE", false, 4, 1536, PLAIN, 0, 0);
        head("super of an INTERFACE", true, 0, 1536, PLAIN, PLAIN, 0);
        head("interface 0", false, 8, 0, PLAIN, 0, 1, 0);
        head("interfaces", true, 0, 0, PLAIN, 0, 3, PLAIN, PLAIN, PLAIN);
    }

    private static void fields(String what, boolean good, int at, int... numbers) {
        members(what, good, at, base().all(0, PLAIN, 0, 0), numbers, new int[] {0, 0});
    }

    private static void methods(String what, boolean good, int at, int... numbers) {
        members(what, good, at, base().all(0, PLAIN, 0, 0, 0), numbers, new int[] {0});
    }

    private static void members(String what, boolean good, int at, ClassFile f, int[] numbers, int[] behind) {
        int from = f.size();
        f.all(numbers);
        if (good) {
            f.all(behind).isGood(what);
        } else {
            f.all(behind).faultAt(what, from + at);
        }
    }

    private static void fieldFlags() {
        int[] sound = {0, 1, 2, 4, 16, 64, 16 + 4, 64 + 2, 65535 - 1 - 2 - 16, 65535 - 2 - 4 - 64, 1024 + 512 + 256};
        int[] wrong = {3, 5, 6, 7, 80, 81, 65535, 65535 - 16, 65535 - 1};
        for (int flags : sound) {
            fields("FIELD flags " + flags, true, 0, 1, flags, NAME_F, TYPE_I, 0);
        }
        for (int flags : wrong) {
            fields("FIELD flags " + flags, false, 2, 1, flags, NAME_F, TYPE_I, 0);
            fields("FIELD flags " + flags + " and a wrong name", false, 2, 1, flags, 0, 0, 0);
        }
    }

    private static void fieldNames() {
        for (int name : new int[] {NAME_F, INIT, CLINIT, ODD_NAME, SAME_F, TYPE_I, TYPE_V}) {
            fields("FIELD name " + name, true, 0, 1, 0, name, TYPE_I, 0);
        }
        for (int name : new int[] {0, PLAIN, NO_NAME, EMPTY, INT, 21, 65535}) {
            fields("FIELD name " + name, false, 4, 1, 0, name, 0, 0);
        }
        for (int type : new int[] {0, PLAIN, NAME_F, TYPE_V, TYPE_II, EMPTY, INT, 21}) {
            fields("FIELD descriptor " + type, false, 6, 1, 0, NAME_F, type, 0);
        }
        fields("FIELD descriptor [I", true, 0, 1, 0, NAME_F, 3, 0);
    }

    private static void sameFields() {
        fields("other names", true, 0, 2, 0, NAME_F, TYPE_I, 0, 0, ODD_NAME, TYPE_I, 0);
        fields("other descriptors", true, 0, 2, 0, NAME_F, TYPE_I, 0, 0, NAME_F, TYPE_J, 0);
        fields("both the same", false, 12, 2, 0, NAME_F, TYPE_I, 0, 1, NAME_F, TYPE_I, 0);
        fields("the same TEXTS in other BYTES", false, 12, 2, 0, NAME_F, TYPE_I, 0, 0, SAME_F, TYPE_I, 0);
        fields("the third like the first", false, 20, 3, 0, NAME_F, TYPE_I, 0, 0, NAME_F, TYPE_J, 0, 0, NAME_F, TYPE_I, 0);
        fields("the third like the second", false, 20, 3, 0, NAME_F, TYPE_I, 0, 0, NAME_F, TYPE_J, 0, 0, NAME_F, TYPE_J, 0);
        fields("the same, before a wrong number of ATTRIBUTES", false, 12, 2, 0, NAME_F, TYPE_I, 0, 0, NAME_F, TYPE_I, 9);
        fields("a wrong descriptor comes first", false, 14, 2, 0, NAME_F, TYPE_I, 0, 0, NAME_F, NAME_F, 0);
        ClassFile f = base().all(0, PLAIN, 0, 0, 1, 0, NAME_F, TYPE_I, 0);
        f.all(1, 1024, NAME_F, TYPE_V, 0, 0).isGood("a FIELD and a METHOD of one name");
    }

    private static void methodFlags() {
        int[] bare = {1024, 1025, 1024 + 4, 256, 256 + 2 + 8 + 16 + 32, 1024 + 64 + 128 + 512 + 2048};
        int[] wrong = {3, 5, 6, 7, 1024 + 2, 1024 + 8, 1024 + 16, 1024 + 32, 1024 + 256, 65535, 1024 + 1 + 4};
        for (int flags : bare) {
            methods("METHOD flags " + flags, true, 0, 1, flags, NAME_F, TYPE_V, 0);
        }
        for (int flags : wrong) {
            methods("METHOD flags " + flags, false, 2, 1, flags, NAME_F, TYPE_V, 0);
            methods("METHOD flags " + flags + " and a wrong name", false, 2, 1, flags, 0, 0, 0);
        }
    }

    private static void methodNames() {
        for (int name : new int[] {NAME_F, INIT, CLINIT, SAME_F, TYPE_I, TYPE_V}) {
            methods("METHOD name " + name, true, 0, 1, 1024, name, TYPE_V, 0);
        }
        for (int name : new int[] {0, PLAIN, ODD_NAME, NO_NAME, EMPTY, INT, 21}) {
            methods("METHOD name " + name, false, 4, 1, 1024, name, 0, 0);
        }
        for (int type : new int[] {0, PLAIN, NAME_F, TYPE_I, EMPTY, INT, 21}) {
            methods("METHOD descriptor " + type, false, 6, 1, 1024, NAME_F, type, 0);
        }
        methods("<init> with V", true, 0, 1, 1024, INIT, ENDS_V, 0);
        methods("<init> with ()V in other BYTES", true, 0, 1, 1024, INIT, SAME_V, 0);
        methods("<init> without V", false, 6, 1, 1024, INIT, TYPE_II, 0);
        methods("<init> with a type that has V", false, 6, 1, 1024, INIT, RETURNS, 0);
        methods("<clinit> with ()V in other BYTES", true, 0, 1, 1024, CLINIT, SAME_V, 0);
        methods("<clinit> with more", false, 6, 1, 1024, CLINIT, ENDS_V, 0);
        methods("<clinit> without V", false, 6, 1, 1024, CLINIT, TYPE_II, 0);
        methods("another name with them", true, 0, 2, 1024, NAME_F, ENDS_V, 0, 1024, NAME_F, RETURNS, 0);
    }

    private static void sameMethods() {
        methods("other descriptors", true, 0, 2, 1024, NAME_F, TYPE_V, 0, 1024, NAME_F, TYPE_II, 0);
        methods("other names", true, 0, 2, 1024, NAME_F, TYPE_V, 0, 1024, INIT, TYPE_V, 0);
        methods("both the same", false, 12, 2, 1024, NAME_F, TYPE_V, 0, 1025, NAME_F, TYPE_V, 0);
        methods("the same in other BYTES", false, 12, 2, 1024, NAME_F, TYPE_V, 0, 1024, SAME_F, SAME_V, 0);
        methods("the same comes before the flags without a Code", false, 12, 2, 1024, NAME_F, TYPE_V, 0, 0, NAME_F, TYPE_V, 0);
    }

    private static void codes() {
        methods("no Code", false, 2, 1, 0, NAME_F, TYPE_V, 0);
        methods("no Code, the second one", false, 10, 2, 1024, NAME_F, TYPE_V, 0, 9, INIT, TYPE_V, 0);
        for (int flags : new int[] {0, 1, 1024, 256}) {
            ClassFile f = base().all(0, PLAIN, 0, 0, 0, 1);
            int at = f.size();
            f.all(flags, NAME_F, TYPE_V, 1).attribute(CODE, 13).all(0, 0).u4(1).u1(0).all(0, 0).u2(0);
            if (flags < 256) {
                f.isGood("a Code with flags " + flags);
            } else {
                f.faultAt("a Code with flags " + flags, at);
            }
        }
        ClassFile f = base().all(0, PLAIN, 0, 0, 0, 1, 0, NAME_F, TYPE_V, 1);
        f.attribute(EMPTY, 0).u2(0).faultAt("another ATTRIBUTE is no Code", f.size() - 16);
    }
}
