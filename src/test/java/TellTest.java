/** Promises 7 to 10: entry, number, text, told. */
public final class TellTest {
    public static void main(String[] args) {
        entries();
        integers();
        floats();
        doubles();
        texts();
        classes();
        types();
        namings();
        members();
        untold();
        Due.end();
    }

    private static void entry(ClassReader x, int i, int tag, int first, int second, int at) {
        Due.is("entry(" + i + ", 0)", () -> x.entry(i, 0), tag);
        Due.is("entry(" + i + ", 1)", () -> x.entry(i, 1), first);
        Due.is("entry(" + i + ", 2)", () -> x.entry(i, 2), second);
        Due.is("entry(" + i + ", 3)", () -> x.entry(i, 3), at);
    }

    private static void entries() {
        ClassFile f = new ClassFile();
        f.text("A\u00e9\u8888");
        f.one(7, 1);
        f.four(3, -7);
        f.four(4, 0x7FC00000);
        f.eight(5, 0xFFFFFFFE_80000001L);
        f.eight(6, 0x40000000_00000003L);
        f.one(8, 1);
        f.text("()V");
        f.one(16, 10);
        f.two(12, 1, 10);
        f.two(10, 2, 12);
        f.two(11, 2, 12);
        f.handle(6, 14);
        f.text("I");
        f.two(12, 1, 16);
        f.two(9, 2, 17);
        f.text("BootstrapMethods");
        f.two(17, 1, 17);
        f.two(18, 0, 12);
        f.endPool().all(33, 2, 0, 0, 0, 0, 1).attribute(19, 10).all(2, 15, 0, 15, 0);
        ClassReader x = f.read();
        entry(x, 1, 1, 3, 0, 10);
        entry(x, 2, 7, 1, 0, 19);
        entry(x, 3, 3, -7, 0, 22);
        entry(x, 4, 4, 0x7FC00000, 0, 27);
        entry(x, 5, 5, -2, 0x80000001, 32);
        entry(x, 6, -2, -2, -2, -2);
        entry(x, 7, 6, 0x40000000, 3, 41);
        entry(x, 8, -2, -2, -2, -2);
        entry(x, 9, 8, 1, 0, 50);
        entry(x, 10, 1, 3, 0, 53);
        entry(x, 11, 16, 10, 0, 59);
        entry(x, 12, 12, 1, 10, 62);
        entry(x, 13, 10, 2, 12, 67);
        entry(x, 14, 11, 2, 12, 72);
        entry(x, 15, 15, 6, 14, 77);
        entry(x, 17, 12, 1, 16, 85);
        entry(x, 18, 9, 2, 17, 90);
        entry(x, 20, 17, 1, 17, 114);
        entry(x, 21, 18, 0, 12, 119);
        for (int i : new int[] {0, 22, -1, 65535, Integer.MIN_VALUE, Integer.MAX_VALUE}) {
            entry(x, i, -2, -2, -2, -2);
        }
        for (int what : new int[] {-1, 4, 5, 6, Integer.MIN_VALUE, Integer.MAX_VALUE}) {
            Due.is("entry(1, " + what + ")", () -> x.entry(1, what), -1);
            Due.is("entry(99, " + what + ")", () -> x.entry(99, what), -1);
        }
    }

    private static ClassFile start() {
        ClassFile f = new ClassFile();
        f.cls("A");
        return f;
    }

    private static void number(String what, ClassFile f, Object want) {
        ClassReader x = f.endPlain(2).read();
        Due.is(what, () -> x.number(3), want);
    }

    private static void integers() {
        for (int bits : new int[] {0, 1, -1, 255, 65536, Integer.MIN_VALUE, Integer.MAX_VALUE}) {
            ClassFile f = start();
            f.four(3, bits);
            number("INT " + bits, f, (double) bits);
        }
        long[] all = {0, 1, -1, 1L << 32, -(1L << 32), 0xFFFFFFFFL, 0x80000000L, Long.MIN_VALUE, Long.MAX_VALUE,
            (1L << 53) + 1, (1L << 53) + 3, -(1L << 54) - 2, -(1L << 54) - 3, (1L << 62) + 255, (1L << 62) + 257};
        for (long bits : all) {
            ClassFile f = start();
            f.eight(5, bits);
            number("LONG " + bits, f, (double) bits);
        }
    }

    private static void floats() {
        float[] all = {0f, -0f, 1f, -1f, 0.1f, 3.125f, Float.MIN_VALUE, -Float.MIN_VALUE, Float.MIN_NORMAL,
            Math.nextDown(Float.MIN_NORMAL), Float.MAX_VALUE, -Float.MAX_VALUE, 8388608f, 16777215f, 1e30f, -1e-40f};
        for (float value : all) {
            ClassFile f = start();
            f.four(4, Float.floatToRawIntBits(value));
            number("FLOAT " + value, f, (double) value);
        }
        for (int bits : new int[] {0x7F800000, 0xFF800000, 0x7FC00000, 0x7F800001, 0xFFFFFFFF}) {
            ClassFile f = start();
            f.four(4, bits);
            number("FLOAT of bits " + bits, f, "ArithmeticException");
        }
    }

    private static void doubles() {
        double[] all = {0, -0.0, 1, -1, 0.1, Math.PI, -Math.E, Double.MIN_VALUE, -Double.MIN_VALUE, Double.MIN_NORMAL,
            Math.nextDown(Double.MIN_NORMAL), Double.MAX_VALUE, -Double.MAX_VALUE, 1e300, -1e-300, 1e-310, 4503599627370496.0,
            9007199254740991.0, Math.nextUp(1.0), Math.nextDown(1.0)};
        for (double value : all) {
            ClassFile f = start();
            f.eight(6, Double.doubleToRawLongBits(value));
            number("DOUBLE " + value, f, value);
        }
        for (int exponent = 0; exponent < 2047; exponent += 7) {
            double value = Double.longBitsToDouble((long) exponent << 52 | 0xF_0F0F_0F0F_0F0FL);
            ClassFile f = start();
            f.eight(6, Double.doubleToRawLongBits(value));
            number("DOUBLE " + value, f, value);
        }
        for (long bits : new long[] {0x7FFL << 52, -1L << 52, 0x7FF8L << 48, (0x7FFL << 52) + 1, -1L}) {
            ClassFile f = start();
            f.eight(6, bits);
            number("DOUBLE of bits " + bits, f, "ArithmeticException");
        }
        ClassFile f = start();
        f.four(4, 0x7FC00000);
        f.eight(6, -1L);
        ClassReader x = f.endPlain(2).read();
        for (int i : new int[] {1, 2, 0, 5, 6, -1, Integer.MIN_VALUE, Integer.MAX_VALUE}) {
            Due.is("number(" + i + ")", () -> x.number(i), -1.0);
        }
    }

    private static void texts() {
        ClassFile f = new ClassFile();
        f.text("Ab\u0000\u00e9\u8888\uffff");
        f.text("A/b");
        f.one(7, 2);
        f.one(8, 1);
        f.text("(J)V");
        f.one(16, 5);
        f.text("");
        f.one(8, 7);
        f.two(12, 1, 5);
        f.four(3, 1);
        f.eight(5, 1);
        ClassReader x = f.endPlain(3).read();
        text(x, 1, "Ab\u0000\u00e9\u8888\uffff");
        text(x, 4, "Ab\u0000\u00e9\u8888\uffff");
        text(x, 2, "A/b");
        text(x, 3, "A/b");
        text(x, 5, "(J)V");
        text(x, 6, "(J)V");
        text(x, 7, "");
        text(x, 8, "");
        for (int i : new int[] {0, 9, 10, 11, 12, 13, -1, Integer.MIN_VALUE, Integer.MAX_VALUE}) {
            for (int k = -2; k < 2; k++) {
                int at = k;
                Due.is("text(" + i + ", " + k + ")", () -> x.text(i, at), -2);
            }
        }
    }

    private static void text(ClassReader x, int i, String want) {
        Due.is("text(" + i + ", -1)", () -> x.text(i, -1), want.length());
        for (int k = 0; k < want.length(); k++) {
            int at = k;
            Due.is("text(" + i + ", " + k + ")", () -> x.text(i, at), (int) want.charAt(k));
        }
        for (int k : new int[] {want.length(), -2, Integer.MIN_VALUE, Integer.MAX_VALUE}) {
            Due.is("text(" + i + ", " + k + ")", () -> x.text(i, k), -2);
        }
    }

    private static void told(ClassReader x, int i, String want) {
        StringBuilder found = new StringBuilder();
        for (int k = 0; k < want.length(); k++) {
            found.append((char) x.told(i, k));
        }
        Due.is("told(" + i + ")", found::toString, want);
        Due.is("told(" + i + ", -1)", () -> x.told(i, -1), want.length());
        for (int k : new int[] {want.length(), -2, -3, Integer.MIN_VALUE, Integer.MAX_VALUE}) {
            Due.is("told(" + i + ", " + k + ")", () -> x.told(i, k), -2);
        }
    }

    private static void classes() {
        String[][] all = {{"B", "B"}, {"a/b/C", "a.b.C"}, {"I", "I"}, {"V", "V"}, {"LA", "LA"}, {"[I", "int[]"}, {"[[[B", "byte[][][]"},
            {"[Z", "boolean[]"}, {"[C", "char[]"}, {"[D", "double[]"}, {"[F", "float[]"}, {"[J", "long[]"}, {"[S", "short[]"},
            {"[La;", "a[]"}, {"[[La/LV;", "a.LV[][]"}, {"a)/\u00e9\u8888(", "a).\u00e9\u8888("}};
        for (String[] row : all) {
            ClassFile f = start();
            int i = f.cls(row[0]);
            told(f.endPlain(2).read(), i, row[1]);
        }
    }

    private static void types() {
        String[][] all = {{"()V", "void()"}, {"()I", "int()"}, {"(I)V", "void(int)"}, {"(JD)La/b;", "a.b(long, double)"},
            {"([[I[La;BCFSZ)[[LV;", "V[][](int[][], a[], byte, char, float, short, boolean)"},
            {"(La)b;)La)V;", "a)V(a)b)"}, {"(LI;LJ;)[D", "double[](I, J)"}, {"(L);L(;)V", "void(), ()"}};
        for (String[] row : all) {
            ClassFile f = start();
            int i = f.one(16, f.text(row[0]));
            told(f.endPlain(2).read(), i, row[1]);
        }
    }

    private static void namings() {
        String[][] all = {{"f", "I", "int f"}, {"x<y", "[La/b;", "a.b[] x<y"}, {"<init>", "()V", "void <init>()"},
            {"m", "(IJ)[Z", "boolean[] m(int, long)"}, {"<clinit>", "D", "double <clinit>"}, {"x y", "(La;)La;", "a x y(a)"},
            {"\u00e9\u8888", "()LI;", "I \u00e9\u8888()"}, {"(", "()V", "void (()"}};
        for (String[] row : all) {
            ClassFile f = start();
            int i = f.naming(row[0], row[1]);
            told(f.endPlain(2).read(), i, row[2]);
        }
    }

    private static void members() {
        Object[][] all = {{9, "a/B", "f", "I", "int a.B.f"}, {9, "[I", "f", "[J", "long[] int[].f"},
            {10, "[[La/b;", "clone", "()La;", "a a.b[][].clone()"}, {10, "A", "<init>", "(I)V", "void A.<init>(int)"},
            {11, "p/q/R", "m", "(Lp/q;I)[B", "byte[] p.q.R.m(p.q, int)"}, {9, "I", "I", "LI;", "I I.I"}};
        for (Object[] row : all) {
            ClassFile f = start();
            int owner = f.cls((String) row[1]);
            int naming = f.naming((String) row[2], (String) row[3]);
            int i = f.two((Integer) row[0], owner, naming);
            told(f.endPlain(2).read(), i, (String) row[4]);
        }
    }

    private static void untold() {
        ClassFile f = new ClassFile();
        f.text("A");
        f.one(7, 1);
        f.four(3, 1);
        f.four(4, 1);
        f.eight(5, 1);
        f.eight(6, 1);
        f.one(8, 1);
        f.text("()V");
        f.two(12, 1, 10);
        f.two(10, 2, 11);
        f.handle(5, 12);
        f.text("I");
        f.two(12, 1, 14);
        f.two(17, 0, 15);
        f.two(18, 0, 11);
        f.text("BootstrapMethods");
        f.endPool().all(33, 2, 0, 0, 0, 0, 1).attribute(18, 6).all(1, 13, 0);
        ClassReader x = f.read();
        for (int i : new int[] {1, 3, 4, 5, 7, 9, 10, 13, 16, 17}) {
            told(x, i, "");
        }
        for (int i : new int[] {0, 6, 8, 19, -1, -2, Integer.MIN_VALUE, Integer.MAX_VALUE}) {
            for (int k = -2; k < 2; k++) {
                int at = k;
                Due.is("told(" + i + ", " + k + ")", () -> x.told(i, at), -2);
            }
        }
    }
}
