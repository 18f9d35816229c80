/**
 * The boundary cases of read and where for the head, the FIELDS and the METHODS: a test for each
 * sentence.
 */
public final class MemberEdgeTest {
    // The ENTRIES that base makes.
    private static final int NAME = 1;
    private static final int PLAIN = 2;
    private static final int ARRAY = 4;
    private static final int OTHER_NAME = 5;
    private static final int TYPE = 6;
    private static final int OTHER_TYPE = 7;
    private static final int VOID = 8;
    private static final int RETURNS = 9;
    private static final int INIT = 10;
    private static final int CLINIT = 11;
    private static final int CODE = 12;
    private static final int SAME_NAME = 13;
    private static final int SAME_TYPE = 14;
    private static final int SAME_VOID = 15;
    private static final int ENDS_VOID = 16;
    private static final int ENDS_V = 17;
    private static final int INT = 18;
    private static final int LONG = 19;
    private static final int GAP = 20;
    private static final int COUNT = 21;
    private static final int[] NO_CLASSES = {NAME, ARRAY, INT, LONG, GAP, COUNT, COUNT + 1, 65535};

    public static void main(String[] args) {
        head();
        fields();
        methods();
        halfNumbers();
        Due.end();
    }

    private static void head() {
        interfaceFlags();
        otherFlags();
        thisClass();
        superClass();
        noSuperClass();
        interfaces();
    }

    private static void fields() {
        fieldCount();
        fieldAccess();
        fieldFinal();
        fieldName();
        fieldDescriptor();
        sameField();
    }

    private static void methods() {
        methodCount();
        methodAccess();
        methodAbstract();
        methodName();
        methodDescriptor();
        initDescriptor();
        clinitDescriptor();
        sameMethod();
        codeAmong();
    }

    private static ClassFile base() {
        ClassFile f = new ClassFile();
        f.cls("A");
        f.cls("[I");
        f.text("b");
        f.text("I");
        f.text("J");
        f.text("()V");
        f.text("()I");
        f.text("<init>");
        f.text("<clinit>");
        f.text("Code");
        // The CHARACTERS of A, I and ()V in BYTES of another length.
        f.rawText(0xC1, 0x81);
        f.rawText(0xC1, 0x89);
        f.rawText(0xE0, 0x80, 0xA8, 0xC0, 0xA9, 0x56);
        f.text("(I)V");
        f.text("()LV;");
        f.four(3, 1);
        f.eight(5, 1);
        return f.endPool();
    }

    private static void due(String what, ClassFile f, boolean good, int at) {
        if (good) {
            f.isGood(what);
        } else {
            f.faultAt(what, at);
        }
    }

    // 4: the head.

    private static void flags(int flags, boolean good) {
        ClassFile f = base();
        int at = f.size();
        due("flags " + flags, f.all(flags, PLAIN, PLAIN, 0, 0, 0, 0), good, at);
    }

    private static void interfaceFlags() {
        Due.by("u2 flags: with 512 (INTERFACE) also 1024 (ABSTRACT) and not 16 (FINAL)");
        flags(512, false);
        flags(512 + 1024, true);
        flags(512 + 16, false);
        flags(512 + 1024 + 16, false);
        flags(65535, false);
        flags(65535 - 16, true);
        flags(65535 - 1024, false);
        flags(65535 - 1024 - 16, false);
        ClassFile f = base();
        f.u1(2).faultAt("half of the flags", f.size());
    }

    private static void otherFlags() {
        Due.by("without it not both of these");
        flags(0, true);
        flags(16, true);
        flags(1024, true);
        flags(1024 + 16, false);
        flags(65535 - 512, false);
        flags(65535 - 512 - 16, true);
        flags(65535 - 512 - 1024, true);
    }

    private static void thisClass() {
        Due.by("u2 this: a CLASS whose name is a PATH");
        for (int x : NO_CLASSES) {
            ClassFile f = base();
            f.all(0, x, 0, 0, 0, 0, 0).faultAt("this " + x, f.size() - 12);
        }
        ClassFile f = base();
        f.all(0, 0, 0, 0, 0, 0, 0).faultAt("this 0", f.size() - 12);
        base().all(0, PLAIN, 0, 0, 0, 0, 0).isGood("this");
    }

    private static void superClass() {
        Due.by("u2 super: the same, or 0, but not 0 for an INTERFACE");
        for (int flags : new int[] {0, 16, 1024, 1536}) {
            for (int x : NO_CLASSES) {
                ClassFile f = base();
                f.all(flags, PLAIN, x, 0, 0, 0, 0).faultAt("super " + x, f.size() - 10);
            }
            base().all(flags, PLAIN, PLAIN, 0, 0, 0, 0).isGood("super, flags " + flags);
        }
    }

    private static void noSuperClass() {
        Due.by("or 0, but not 0 for an INTERFACE");
        base().all(0, PLAIN, 0, 0, 0, 0, 0).isGood("super 0");
        base().all(1024, PLAIN, 0, 0, 0, 0, 0).isGood("super 0, ABSTRACT");
        ClassFile f = base();
        f.all(1536, PLAIN, 0, 0, 0, 0, 0).faultAt("super 0 of an INTERFACE", f.size() - 10);
    }

    private static void interfaces() {
        Due.by("u2 n, and n times u2: a CLASS whose name is a PATH");
        for (int x : NO_CLASSES) {
            ClassFile f = base();
            int at = f.size() + 8;
            f.all(0, PLAIN, 0, 1, x, 0, 0, 0).faultAt("the only interface " + x, at);
            ClassFile g = base();
            g.all(0, PLAIN, 0, 3, PLAIN, PLAIN, x, 0, 0, 0).faultAt("the last interface " + x, at + 4);
        }
        ClassFile f = base();
        int at = f.size() + 8;
        f.all(0, PLAIN, 0, 1, 0, 0, 0, 0).faultAt("interface 0", at);
        base().all(0, PLAIN, 0, 2, PLAIN, PLAIN, 0, 0, 0).isGood("one interface twice");
        ClassFile g = base();
        g.all(0, PLAIN, 0, 2, PLAIN).faultAt("an interface too few", g.size());
    }

    // 5: the FIELDS.

    /** The FIELDS with these numbers behind how many; at is where in these the FAULT is. */
    private static void fields(String what, boolean good, int at, int... numbers) {
        ClassFile f = base().all(0, PLAIN, 0, 0);
        int from = f.size();
        due(what, f.all(numbers).all(0, 0), good, from + at);
    }

    private static void fieldCount() {
        Due.by("u2 n, and n FIELDS");
        fields("none", true, 0, 0);
        fields("one", true, 0, 1, 0, NAME, TYPE, 0);
        fields("two", true, 0, 2, 0, NAME, TYPE, 0, 0, OTHER_NAME, TYPE, 0);
        ClassFile f = base().all(0, PLAIN, 0, 0, 2, 0, NAME, TYPE, 0);
        f.faultAt("one too few", f.size());
        ClassFile g = base().all(0, PLAIN, 0, 0, 65535);
        g.faultAt("none of 65535", g.size());
    }

    private static void fieldFlags(int flags, boolean good) {
        fields("FIELD flags " + flags, good, 2, 1, flags, NAME, TYPE, 0);
    }

    private static void fieldAccess() {
        Due.by("u2 flags, not more than one of 1, 2, 4, not both 16 and 64");
        for (int access = 0; access < 8; access++) {
            boolean good = access < 3 || access == 4;
            fieldFlags(access, good);
            fieldFlags(access + 8, good);
            fieldFlags(65535 - 7 - 16 + access, good);
        }
    }

    private static void fieldFinal() {
        Due.by("not both 16 and 64; u2 name");
        fieldFlags(16, true);
        fieldFlags(64, true);
        fieldFlags(16 + 64, false);
        fieldFlags(65535 - 6 - 16, true);
        fieldFlags(65535 - 6 - 64, true);
        fieldFlags(65535 - 6, false);
    }

    private static void fieldName() {
        Due.by("u2 name: a TEXT that is a SIMPLE NAME");
        for (int x : new int[] {0, PLAIN, ENDS_V, INT, LONG, GAP, COUNT, 65535}) {
            fields("name " + x, false, 4, 1, 0, x, 0, 0);
        }
        for (int x : new int[] {NAME, INIT, CLINIT, VOID, SAME_NAME}) {
            fields("name " + x, true, 0, 1, 0, x, TYPE, 0);
        }
    }

    private static void fieldDescriptor() {
        Due.by("u2 descriptor: a TEXT that is a FIELD DESCRIPTOR");
        for (int x : new int[] {0, NAME, PLAIN, VOID, INIT, INT, LONG, GAP, COUNT, 65535}) {
            fields("descriptor " + x, false, 6, 1, 0, NAME, x, 9);
        }
        for (int x : new int[] {3, TYPE, OTHER_TYPE, SAME_TYPE}) {
            fields("descriptor " + x, true, 0, 1, 0, NAME, x, 0);
        }
    }

    private static void sameField() {
        Due.by("no FIELD before it has the same TEXTS as name and descriptor (FAULT at its name)");
        fields("the same", false, 12, 2, 0, NAME, TYPE, 0, 0, NAME, TYPE, 0);
        fields("the same, of other flags", false, 12, 2, 1, NAME, TYPE, 0, 2, NAME, TYPE, 0);
        fields("the same TEXTS, other ENTRIES", false, 12, 2, 0, NAME, TYPE, 0, 0, SAME_NAME, SAME_TYPE, 0);
        fields("another name", true, 0, 2, 0, NAME, TYPE, 0, 0, OTHER_NAME, TYPE, 0);
        fields("another descriptor", true, 0, 2, 0, NAME, TYPE, 0, 0, NAME, OTHER_TYPE, 0);
        fields("both of others, but not of one", true, 0, 3, 0, NAME, TYPE, 0, 0, OTHER_NAME, OTHER_TYPE, 0, 0, NAME, OTHER_TYPE, 0);
        fields("the first and the last", false, 20, 3, 0, NAME, TYPE, 0, 0, OTHER_NAME, TYPE, 0, 0, NAME, TYPE, 0);
        fields("before its ATTRIBUTES", false, 12, 2, 0, NAME, TYPE, 0, 0, NAME, TYPE, 1);
        ClassFile f = base().all(0, PLAIN, 0, 0, 2, 0, NAME, TYPE, 0, 0, NAME);
        f.faultAt("without a descriptor it is not known", f.size());
    }

    // 6: the METHODS.

    private static void methods(String what, boolean good, int at, int... numbers) {
        ClassFile f = base().all(0, PLAIN, 0, 0, 0);
        int from = f.size();
        due(what, f.all(numbers).u2(0), good, from + at);
    }

    private static void methodCount() {
        Due.by("u2 n, and n METHODS");
        methods("none", true, 0, 0);
        methods("one", true, 0, 1, 1024, NAME, VOID, 0);
        methods("two", true, 0, 2, 1024, NAME, VOID, 0, 256, OTHER_NAME, VOID, 0);
        ClassFile f = base().all(0, PLAIN, 0, 0, 0, 2, 1024, NAME, VOID, 0);
        f.faultAt("one too few", f.size());
        ClassFile g = base().all(0, PLAIN, 0, 0, 0, 65535);
        g.faultAt("none of 65535", g.size());
    }

    private static void methodFlags(int flags, boolean good) {
        methods("METHOD flags " + flags, good, 2, 1, flags, NAME, VOID, 0);
    }

    private static void methodAccess() {
        Due.by("u2 flags, not more than one of 1, 2, 4, with 1024");
        for (int access = 0; access < 8; access++) {
            boolean good = access < 3 || access == 4;
            methodFlags(256 + access, good);
            methodFlags(65535 - 1024 - 7 + access, good);
            methodFlags(1024 + access, good && access != 2);
        }
    }

    /** All of these have 256 or 1024, so that no Code is wanted. */
    private static void methodAbstract() {
        Due.by("with 1024 none of 2, 8, 16, 32, 256");
        for (int bit = 1; bit < 65536; bit *= 2) {
            boolean rival = bit == 2 || bit == 8 || bit == 16 || bit == 32 || bit == 256;
            methodFlags(1024 | bit, !rival);
            methodFlags(256 | bit, bit != 1024);
        }
        methodFlags(65535 - 2 - 8 - 16 - 32 - 256 - 1, true);
    }

    private static void methodName() {
        Due.by("u2 name: a TEXT that is a METHOD NAME");
        for (int x : new int[] {0, PLAIN, ENDS_V, 3, INT, LONG, GAP, COUNT, 65535}) {
            methods("name " + x, false, 4, 1, 1024, x, 0, 0);
        }
        for (int x : new int[] {NAME, INIT, CLINIT, SAME_NAME}) {
            methods("name " + x, true, 0, 1, 1024, x, VOID, 0);
        }
    }

    private static void methodDescriptor() {
        Due.by("u2 descriptor: a TEXT that is a METHOD DESCRIPTOR");
        for (int x : new int[] {0, NAME, PLAIN, TYPE, INIT, INT, LONG, GAP, COUNT, 65535}) {
            methods("descriptor " + x, false, 6, 1, 1024, NAME, x, 9);
        }
        for (int x : new int[] {VOID, RETURNS, ENDS_VOID, ENDS_V, SAME_VOID}) {
            methods("descriptor " + x, true, 0, 1, 1024, NAME, x, 0);
        }
    }

    private static void initDescriptor() {
        Due.by("with V behind ) for <init>");
        methods("()V", true, 0, 1, 1024, INIT, VOID, 0);
        methods("(I)V", true, 0, 1, 1024, INIT, ENDS_VOID, 0);
        methods("()V in other BYTES", true, 0, 1, 1024, INIT, SAME_VOID, 0);
        methods("()I", false, 6, 1, 1024, INIT, RETURNS, 9);
        methods("()LV;", false, 6, 1, 1024, INIT, ENDS_V, 9);
    }

    private static void clinitDescriptor() {
        Due.by("just ()V for <clinit>");
        methods("()V", true, 0, 1, 1024, CLINIT, VOID, 0);
        methods("()V in other BYTES", true, 0, 1, 1024, CLINIT, SAME_VOID, 0);
        methods("(I)V", false, 6, 1, 1024, CLINIT, ENDS_VOID, 9);
        methods("()I", false, 6, 1, 1024, CLINIT, RETURNS, 9);
        methods("()LV;", false, 6, 1, 1024, CLINIT, ENDS_V, 9);
    }

    private static void sameMethod() {
        Due.by("no METHOD before it with both the same (FAULT at its name)");
        methods("the same", false, 12, 2, 1024, NAME, VOID, 0, 256, NAME, VOID, 0);
        methods("the same TEXTS, other ENTRIES", false, 12, 2, 1024, NAME, VOID, 0, 1024, SAME_NAME, SAME_VOID, 0);
        methods("another name", true, 0, 2, 1024, NAME, VOID, 0, 1024, OTHER_NAME, VOID, 0);
        methods("another descriptor", true, 0, 2, 1024, NAME, VOID, 0, 1024, NAME, RETURNS, 0);
        methods("the first and the last", false, 20, 3, 1024, NAME, VOID, 0, 1024, OTHER_NAME, VOID, 0, 1024, NAME, VOID, 0);
        methods("before its ATTRIBUTES", false, 12, 2, 1024, NAME, VOID, 0, 1024, NAME, VOID, 1);
        methods("before it has no Code", false, 12, 2, 1024, NAME, VOID, 0, 0, NAME, VOID, 0);
        base().all(0, PLAIN, 0, 0, 1, 0, NAME, TYPE, 0).all(1, 1024, NAME, RETURNS, 0, 0).isGood("a FIELD of that name");
    }

    private static void codeAmong() {
        Due.by("with 1024 or 256 no Code among them, else one (FAULT at its flags)");
        for (int flags : new int[] {0, 1, 8 + 16 + 32, 256, 256 + 8, 1024, 1025, 65535 - 6 - 1024 - 256, 65535 - 6 - 1024}) {
            boolean bare = (flags & (256 | 1024)) != 0;
            ClassFile f = base().all(0, PLAIN, 0, 0, 0, 1);
            int at = f.size();
            due("no Code, flags " + flags, f.all(flags, NAME, VOID, 0, 0), bare, at);
            ClassFile g = withCode(flags, 1);
            due("a Code, flags " + flags, g, !bare, at);
        }
        ClassFile f = withCode(1024, 0);
        f.faultAt("ATTRIBUTES come before it: a Code of no BYTE", f.size() - 10);
        ClassFile g = base().all(0, PLAIN, 0, 0, 0, 1, 0, NAME, VOID, 1).attribute(OTHER_NAME, 0);
        g.u2(0).faultAt("another ATTRIBUTE is no Code", g.size() - 16);
        methods("the second one", false, 10, 2, 1024, NAME, VOID, 0, 0, OTHER_NAME, VOID, 0);
    }

    private static ClassFile withCode(int flags, int size) {
        ClassFile f = base().all(0, PLAIN, 0, 0, 0, 1, flags, NAME, VOID, 1);
        f.attribute(CODE, 12 + size).all(0, 0).u4(size);
        for (int i = 0; i < size; i++) {
            f.u1(0);
        }
        return f.all(0, 0, 0);
    }

    /** A wrong u2 is the FAULT where both its BYTES are there; with one of them or none it is behind the last. */
    private static void halfNumbers() {
        Due.by("where BYTES are wanted that are not there, it is at the OFFSET behind the last one");
        half("flags", base());
        half("this", base().u2(0));
        half("super", base().all(0, PLAIN));
        half("an interface", base().all(0, PLAIN, 0, 1));
        half("the flags of a FIELD", base().all(0, PLAIN, 0, 0, 1));
        half("the name of a FIELD", base().all(0, PLAIN, 0, 0, 1, 0));
        half("the descriptor of a FIELD", base().all(0, PLAIN, 0, 0, 1, 0, NAME));
        half("the flags of a METHOD", base().all(0, PLAIN, 0, 0, 0, 1));
        half("the name of a METHOD", base().all(0, PLAIN, 0, 0, 0, 1, 0));
        half("the descriptor of a METHOD", base().all(0, PLAIN, 0, 0, 0, 1, 0, NAME));
    }

    /** What stands before the u2 is sound; no u2 may be 65535 there, nor begin so. */
    private static void half(String what, ClassFile before) {
        int at = before.size();
        before.faultAt(what + ", no BYTE", at);
        before.u1(255).faultAt(what + ", one BYTE", at + 1);
        before.u1(255).faultAt(what + ", both BYTES", at);
        before.u2(0).faultAt(what + ", and more", at);
    }
}
