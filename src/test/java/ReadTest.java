import java.util.Arrays;

/** Promises 5 and 6: read and where, for parts 1 to 3, 8 and 9 of the order of FAULTS. */
public final class ReadTest {
    public static void main(String[] args) {
        cutAnywhere();
        versions();
        counts();
        tags();
        characters();
        wideEntries();
        order();
        links();
        namings();
        handles();
        names();
        descriptors();
        ends();
        again();
        Due.end();
    }

    /** Where a FILE ends too early, the FAULT is behind its last BYTE. */
    private static void cutAnywhere() {
        ClassFile f = rich();
        byte[] file = f.bytes();
        for (int n = 0; n < file.length; n++) {
            ClassReader x = ClassFile.load(Arrays.copyOf(file, n));
            Due.is("cut to " + n + ": read()", x::read, "IllegalArgumentException");
            Due.is("cut to " + n + ": where()", x::where, n);
        }
        f.isGood("not cut");
    }

    private static ClassFile rich() {
        ClassFile f = new ClassFile();
        int a = f.cls("A");
        int number = f.four(3, 5);
        f.eight(5, 5);
        f.eight(6, 5);
        int name = f.text("m\u00e9\u8888");
        int result = f.text("()V");
        int method = f.two(10, a, f.two(12, name, result));
        int handle = f.handle(5, method);
        int code = f.text("Code");
        int value = f.text("ConstantValue");
        int starts = f.text("BootstrapMethods");
        int type = f.text("I");
        int dynamic = f.two(17, 0, f.two(12, name, type));
        f.endPool().all(33, a, a, 1, a);
        f.all(1, 0, name, type, 1).attribute(value, 2).u2(number);
        f.all(1, 1, name, result, 1);
        int at = f.open(code);
        f.all(1, 1).u4(1).u1(0).all(1, 0, 1, 0, a, 1).attribute(type, 1).u1(9).close(at);
        f.u2(1).attribute(starts, 8).all(1, handle, 1, dynamic);
        return f;
    }

    private static void versions() {
        int[][] sound = {{45, 3}, {45, 65535}, {50, 1}, {55, 7}, {56, 0}, {56, 65535}, {69, 0}, {69, 65535}};
        int[][] unknown = {{44, 0}, {0, 0}, {70, 0}, {70, 65535}, {65535, 0}, {56, 1}, {56, 65534}, {69, 3}, {301, 0}};
        for (int[] v : sound) {
            ClassFile f = plain();
            f.set2(4, v[1]).set2(6, v[0]).isGood("version " + v[0] + "." + v[1]);
        }
        for (int[] v : unknown) {
            ClassReader x = plain().set2(4, v[1]).set2(6, v[0]).load();
            Due.is("version " + v[0] + "." + v[1], x::read, "UnsupportedOperationException");
            Due.is("where()", x::where, 4);
            Due.is("nothing is READ", () -> x.whole(6), "IllegalStateException");
        }
        ClassReader x = ClassFile.load(Arrays.copyOf(plain().set2(6, 0).bytes(), 8));
        Due.is("an UNKNOWN version comes before what is missing", x::read, "UnsupportedOperationException");
        plain().set2(0, 0xCAFF).set2(6, 0).faultAt("the first number comes before the version", 0);
        plain().set2(2, 0xBABF).faultAt("the first number", 0);
    }

    private static ClassFile plain() {
        ClassFile f = new ClassFile();
        return f.endPlain(f.cls("A"));
    }

    private static void counts() {
        plain().set2(8, 0).faultAt("no count", 8);
        plain().set2(8, 2).faultAt("an ENTRY too few: it is read as flags and this", 16);
        plain().set2(8, 4).faultAt("an ENTRY too many: the flags are read as a TAG", 17);
        ClassFile f = new ClassFile();
        f.endPool().all(33, 1, 0, 0, 0, 0, 0).faultAt("a count of 1", 12);
    }

    private static void tags() {
        for (int tag : new int[] {0, 2, 13, 14, 19, 20, 255}) {
            ClassFile f = new ClassFile();
            f.text("A");
            int at = f.size();
            f.one(tag, 1);
            f.endPlain(1).faultAt("TAG " + tag, at);
        }
    }

    private static void characters() {
        int[][] sound = {{}, {1}, {127}, {192, 128}, {223, 191}, {224, 128, 128}, {239, 191, 191}, {65, 195, 169, 66}};
        for (int[] raw : sound) {
            ClassFile f = new ClassFile();
            int self = f.cls("A");
            f.rawText(raw);
            f.endPlain(self).isGood("BYTES " + Arrays.toString(raw));
        }
        int[][] wrong = {{0}, {128}, {191}, {240, 128, 128, 128}, {255}, {192}, {192, 127}, {192, 192}, {224}, {224, 128},
            {224, 127, 128}, {224, 128, 127}, {224, 128, 192}, {224, 192, 128}};
        for (int[] raw : wrong) {
            ClassFile f = new ClassFile();
            int self = f.cls("A");
            int[] behind = new int[raw.length + 2];
            behind[0] = 200;
            behind[1] = 150;
            System.arraycopy(raw, 0, behind, 2, raw.length);
            int at = f.size() + 5;
            f.rawText(behind);
            f.endPlain(self).faultAt("BYTES " + Arrays.toString(raw), at);
        }
        // The second BYTE stands behind the n-th one: it does not count.
        ClassFile f = new ClassFile();
        f.rawText(65, 195, 169);
        f.set2(11, 2).endPlain(1).faultAt("a CHARACTER that ends too late", 14);
        ClassFile g = new ClassFile();
        g.rawText(0, 65);
        g.set2(11, 3).endPool().faultAt("the n BYTES must be there first", 15);
    }

    private static void wideEntries() {
        for (int tag = 5; tag <= 6; tag++) {
            ClassFile f = new ClassFile();
            int self = f.cls("A");
            int at = f.size();
            f.eight(tag, 1);
            ClassFile last = f.endPlain(self);
            last.isGood("a wide ENTRY before the end");
            last.set2(8, f.next() - 1).faultAt("a wide ENTRY at the end", at);
            ClassFile g = new ClassFile();
            g.text("A");
            int wide = g.eight(tag, 1);
            int from = g.size();
            g.one(7, wide + 1);
            g.endPlain(1).faultAt("the number behind a wide ENTRY", from);
        }
    }

    /** All of the pool is read before any ENTRY is looked at, and those by numbers. */
    private static void order() {
        ClassFile f = new ClassFile();
        f.one(7, 9);
        f.text("A");
        int at = f.size();
        f.one(99, 1);
        f.endPlain(1).faultAt("a wrong TAG behind a wrong CLASS", at);
        ClassFile g = new ClassFile();
        g.text("a.b");
        int first = g.size();
        g.one(8, 4);
        g.one(7, 1);
        g.endPlain(1).faultAt("the first of two", first);
        ClassFile h = new ClassFile();
        int wrong = h.size();
        h.one(7, 2);
        h.text("a;b");
        h.endPool().all(1 << 9, 0).faultAt("an ENTRY before the flags", wrong);
    }

    /** For ENTRIES that name one or two others: numbers that are out of place. */
    private static void links() {
        for (int tag : new int[] {7, 8, 16}) {
            for (int named : new int[] {0, 2, 3, 5, 6, 7, 12, 13, 65535}) {
                ClassFile f = parts();
                int at = f.size();
                f.one(tag, named);
                f.endPlain(2).faultAt("TAG " + tag + " names " + named, at);
            }
        }
        int[] tags = {9, 10, 11};
        for (int tag : tags) {
            int naming = tag == 9 ? 7 : 8;
            int other = tag == 9 ? 8 : 7;
            int[][] wrong = {{0, naming}, {1, naming}, {4, naming}, {99, naming}, {naming, 2}, {2, 0}, {2, 2}, {2, 1},
                {2, other}, {2, 99}, {2, 6}};
            for (int[] pair : wrong) {
                ClassFile f = parts();
                int at = f.size();
                f.two(tag, pair[0], pair[1]);
                f.endPlain(2).faultAt("TAG " + tag + " names " + Arrays.toString(pair), at);
            }
            ClassFile f = parts();
            f.two(tag, 2, naming);
            f.endPlain(2).isGood("TAG " + tag);
        }
    }

    /** CLASS 2, INT 3, LONG 5, NAMING 7 of a FIELD, 8 of a METHOD; the rest are TEXTS, but 6 is none. */
    private static ClassFile parts() {
        ClassFile f = new ClassFile();
        f.text("A");
        f.one(7, 1);
        f.four(3, 1);
        f.text("[");
        f.eight(5, 1);
        f.two(12, 1, 10);
        f.two(12, 1, 11);
        f.text(".");
        f.text("I");
        f.text("()V");
        return f;
    }

    private static void namings() {
        Object[][] all = {{"f", "I", true}, {"f", "()V", true}, {"<init>", "()V", true}, {"<clinit>", "I", true},
            {"x<y", "()V", true}, {"", "I", false}, {"a/b", "I", false}, {"f", "V", false}, {"f", "II", false},
            {"f", "()", false}, {"f.", "I", false}};
        for (Object[] row : all) {
            ClassFile f = new ClassFile();
            f.cls("A");
            f.text((String) row[0]);
            f.text((String) row[1]);
            int at = f.size();
            f.two(12, 3, 4);
            f.endPlain(2);
            if ((Boolean) row[2]) {
                f.isGood("NAMING " + row[0] + " " + row[1]);
            } else {
                f.faultAt("NAMING " + row[0] + " " + row[1], at);
            }
        }
        named(10, "<init>", "()V", true);
        named(11, "<init>", "()V", true);
        named(10, "<init>", "()I", true);
        named(10, "<clinit>", "()V", false);
        named(11, "<clinit>", "()V", false);
        named(10, "x<y", "()V", false);
        named(10, "x>", "()V", false);
        named(11, "f", "I", false);
        named(9, "<clinit>", "I", true);
        named(9, "f", "()V", false);
        named(17, "f", "I", false);
        named(18, "f", "I", false);
        // What is wanted of a NAMING is looked at where it is named, though its name is faulty.
        named(9, "a/b", "I", true);
        named(10, "a/b", "()V", false);
    }

    /**
     * An ENTRY that names a NAMING behind it. Where it is good, a faulty NAMING is the first FAULT,
     * or the missing bootstrap method.
     */
    private static void named(int tag, String name, String descriptor, boolean good) {
        ClassFile f = new ClassFile();
        f.cls("A");
        int at = f.size();
        f.two(tag, 2, 6);
        f.text(name);
        f.text(descriptor);
        int namingAt = f.size();
        f.two(12, 4, 5);
        f.endPlain(2);
        String what = "TAG " + tag + " of " + name + " " + descriptor;
        if (!good) {
            f.faultAt(what, at);
        } else if (name.indexOf('/') >= 0) {
            f.faultAt(what, namingAt);
        } else {
            f.isGood(what);
        }
    }

    private static void handles() {
        for (int kind = 0; kind <= 11; kind++) {
            for (int named = 1; named <= 6; named++) {
                ClassFile f = new ClassFile();
                f.cls("A");
                int onField = f.naming("f", "I");
                int onMethod = f.naming("f", "()V");
                f.two(9, 2, onField);
                f.two(10, 2, onMethod);
                f.two(11, 2, onMethod);
                int at = f.size();
                // 9 is the FIELD, 10 the METHOD, 11 the FACE.
                f.handle(kind, named + 6);
                f.endPlain(2);
                boolean good = named == 3 && kind >= 1 && kind <= 4 || named == 4 && kind >= 5 && kind <= 8
                        || named == 5 && (kind == 6 || kind == 7 || kind == 9);
                if (good) {
                    f.isGood("HANDLE " + kind + " of " + (named + 6));
                } else {
                    f.faultAt("HANDLE " + kind + " of " + (named + 6), at);
                }
            }
        }
    }

    private static void names() {
        String[] sound = {"A", "a/b", "a/b/c", "[I", "[[J", "[La;", "[[La/b;", "I", "V", "a)b", "<init>", "a(b"};
        String[] wrong = {"", "/", "a/", "/a", "a//b", "a.b", "a;", "a[", "La;", "[", "[V", "[[", "[L;", "[La", "[La/;",
            "[II", "[a", "[La.b;", "[L/a;", "[L[;", "[()V"};
        for (String name : sound) {
            ClassFile f = new ClassFile();
            f.cls("A");
            f.cls(name);
            f.endPlain(2).isGood("CLASS " + name);
        }
        for (String name : wrong) {
            ClassFile f = new ClassFile();
            f.cls("A");
            int at = f.size() + 3 + name.length();
            f.cls(name);
            f.endPlain(2).faultAt("CLASS " + name, at);
        }
    }

    private static void descriptors() {
        String[] sound = {"()V", "()I", "(BCDFIJSZ)V", "([I[[La;)[J", "(La)b;)V", "(L);)L(;", "(LV;LI;)Lp/V;"};
        String[] wrong = {"", "(", ")", "()", "V", "I", "(V)V", "()VV", "()II", "(I", "(I)", "(La)V", "([)V", "()[V", "()[",
            "(L;)V", "()La", "()La;;", "((I)V", "(I))V", "(A)V", "I()V", "(I V", "(La//b;)V", "(Ia)V"};
        for (String type : sound) {
            ClassFile f = new ClassFile();
            f.cls("A");
            f.one(16, f.text(type));
            f.endPlain(2).isGood("TYPE " + type);
        }
        for (String type : wrong) {
            ClassFile f = new ClassFile();
            f.cls("A");
            int at = f.size() + 3 + type.length();
            f.one(16, f.text(type));
            f.endPlain(2).faultAt("TYPE " + type, at);
        }
    }

    private static void ends() {
        ClassFile f = plain();
        int at = f.size();
        f.u1(0).faultAt("a BYTE left", at);
        f.u1(0).faultAt("two BYTES left", at);
        for (int tag = 17; tag <= 18; tag++) {
            for (int first = 0; first <= 2; first++) {
                starting(tag, first);
            }
        }
        ClassFile first = new ClassFile();
        first.two(18, 0, 4);
        first.cls("A");
        first.two(12, 2, 5);
        first.text("()V");
        first.endPlain(3).faultAt("the first ENTRY wants a bootstrap method", 10);
        ClassFile g = new ClassFile();
        int self = g.cls("A");
        g.two(17, 0, g.naming("f", "I"));
        g.endPlain(self);
        int end = g.size();
        g.u1(0).faultAt("a BYTE left comes before a missing bootstrap method", end);
    }

    /** One bootstrap method, so that the first number 0 is good alone. */
    private static void starting(int tag, int first) {
        ClassFile f = new ClassFile();
        int self = f.cls("A");
        int handle = f.handle(5, f.two(10, self, f.naming("m", "()V")));
        f.text("BootstrapMethods");
        f.naming("d", tag == 17 ? "I" : "()V");
        int at = f.size();
        f.two(tag, first, f.next() - 1);
        f.endPool().all(33, self, 0, 0, 0, 0, 1).attribute(handle + 1, 6).all(1, handle, 0);
        if (first == 0) {
            f.isGood("TAG " + tag + " of a bootstrap method");
        } else {
            f.faultAt("TAG " + tag + " of bootstrap method " + first, at);
        }
    }

    private static void again() {
        ClassReader x = plain().load();
        Due.is("read()", x::read, 3);
        Due.is("where()", x::where, -2);
        x.patch(8, 9);
        Due.is("a changed FILE changes nothing", () -> x.whole(8), 2);
        Due.is("nor does it", x::where, -2);
        Due.is("read() with a FAULT", x::read, "IllegalArgumentException");
        int fault = x.where();
        Due.is("nothing is READ any more", () -> x.whole(8), "IllegalStateException");
        x.patch(8, 0);
        Due.is("where() stays", x::where, fault);
        Due.is("still nothing is READ", () -> x.entry(1, 0), "IllegalStateException");
        Due.is("read() again", x::read, 3);
        Due.is("where() is NONE again", x::where, -2);
        x.patch(6, 9);
        Due.is("an UNKNOWN version", x::read, "UnsupportedOperationException");
        Due.is("where()", x::where, 4);
        Due.is("nothing is READ any more", () -> x.told(2, -1), "IllegalStateException");
        x.cut(0);
        x.bytes(0xCAFEBABE_0000_0034L, 8);
        Due.is("another FILE", x::read, "IllegalArgumentException");
        Due.is("where()", x::where, 8);
    }
}
