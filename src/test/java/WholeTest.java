/** Promises 11 to 13: whole, member, linkage. */
public final class WholeTest {
    private static final int[] FAR = {Integer.MIN_VALUE, Integer.MAX_VALUE};

    public static void main(String[] args) {
        whole();
        manyInterfaces();
        entriesCounted();
        members();
        slots();
        linkage();
        without();
        latest();
        overAndOver();
        Due.end();
    }

    private static void whole(ClassReader x, int what, int want) {
        Due.is("whole(" + what + ")", () -> x.whole(what), want);
    }

    private static void whole() {
        ClassFile f = new ClassFile();
        int self = f.cls("A");
        int parent = f.cls("B");
        int face = f.cls("C");
        f.text("f");
        f.text("I");
        f.text("()V");
        f.set2(4, 65535).set2(6, 61).endPool().all(0xF421 & ~16, self, parent, 2, face, parent);
        f.all(1, 0, 7, 8, 0).all(2, 1024, 7, 9, 0, 1024, 8, 9, 0).all(0);
        ClassReader x = f.read();
        int[] want = {0xF421 & ~16, self, parent, 2, 1, 2, 61, 65535, 9};
        for (int what = 0; what < want.length; what++) {
            whole(x, what, want[what]);
        }
        whole(x, 20, face);
        whole(x, 21, parent);
        whole(x, 22, -2);
        whole(x, 119, -2);
        for (int what : new int[] {-1, 9, 10, 19, 120, 121, -20, FAR[0], FAR[1]}) {
            whole(x, what, -1);
        }
        ClassFile g = new ClassFile();
        g.cls("A");
        ClassReader y = g.endPool().all(0, 2, 0, 0, 0, 0, 0).read();
        int[] least = {0, 2, 0, 0, 0, 0, 52, 0, 2};
        for (int what = 0; what < least.length; what++) {
            whole(y, what, least[what]);
        }
        whole(y, 20, -2);
    }

    private static void manyInterfaces() {
        ClassFile f = new ClassFile();
        int a = f.cls("A");
        int b = f.cls("B");
        f.endPool().all(0, a, 0, 150);
        for (int k = 0; k < 150; k++) {
            f.u2(k % 3 == 0 ? b : a);
        }
        ClassReader x = f.all(0, 0, 0).read();
        whole(x, 3, 150);
        for (int k = 0; k < 100; k++) {
            whole(x, 20 + k, k % 3 == 0 ? b : a);
        }
        whole(x, 120, -1);
        whole(x, 169, -1);
    }

    /** A wide ENTRY takes two numbers, but is one. */
    private static void entriesCounted() {
        ClassFile f = new ClassFile();
        int self = f.cls("A");
        f.eight(5, 1);
        f.eight(6, 1);
        f.four(3, 1);
        ClassReader x = f.endPlain(self).read();
        whole(x, 8, 5);
    }

    private static void row(ClassReader x, boolean method, int k, int... want) {
        for (int what = 0; what < 8; what++) {
            int w = what;
            Due.is("member(" + method + ", " + k + ", " + w + ")", () -> x.member(method, k, w), want.length == 0 ? -2 : want[w]);
        }
        for (int what : new int[] {-1, 8, 9, FAR[0], FAR[1]}) {
            Due.is("member(" + method + ", " + k + ", " + what + ")", () -> x.member(method, k, what), -1);
        }
    }

    private static void members() {
        ClassFile f = new ClassFile();
        int self = f.cls("A");
        f.text("f");
        f.text("J");
        f.text("(J[J)V");
        f.text("ConstantValue");
        f.text("Code");
        f.text("Exceptions");
        f.eight(5, 1);
        f.text("D");
        f.text("[D");
        f.endPool().all(33, self, 0, 0);
        f.all(3, 25, 3, 4, 2).attribute(3, 0).attribute(6, 2).u2(9);
        f.all(2, 4, 11, 0).all(0, 3, 12, 0);
        f.all(3, 1, 3, 5, 3);
        int at = f.open(7);
        f.all(9, 9).u4(5).u4(0).u1(0).all(2, 0, 1, 0, 0, 1, 2, 3, 2, 0).close(at);
        f.attribute(8, 8).all(3, 2, 2, 2).attribute(3, 1).u1(0);
        f.all(256, 4, 5, 1).attribute(8, 4).all(1, 2);
        f.all(1025, 7, 5, 0, 0);
        ClassReader x = f.read();
        row(x, false, 0, 25, 3, 4, 2, 2, 9, -2, 0);
        row(x, false, 1, 2, 4, 11, 0, 2, -2, -2, 0);
        row(x, false, 2, 0, 3, 12, 0, 1, -2, -2, 0);
        row(x, true, 0, 1, 3, 5, 3, 3, 5, 2, 3);
        row(x, true, 1, 256, 4, 5, 1, 3, -2, -2, 1);
        row(x, true, 2, 1025, 7, 5, 0, 3, -2, -2, 0);
        for (int k : new int[] {-1, 3, 4, 62, FAR[0], FAR[1]}) {
            row(x, false, k);
            row(x, true, k);
        }
    }

    private static void slots() {
        Object[][] all = {{"()V", 0}, {"()J", 0}, {"(I)V", 1}, {"(J)V", 2}, {"(D)V", 2}, {"([J)V", 1}, {"([[D)V", 1}, {"(LJ;)V", 1},
            {"(BCFISZ)D", 6}, {"(JDJ[DLD;I)V", 9}, {"(La)J;J)V", 3}};
        for (Object[] row : all) {
            ClassFile f = new ClassFile();
            int self = f.cls("A");
            int type = f.text((String) row[0]);
            f.endPool().all(33, self, 0, 0, 0, 1, 1024, 1, type, 0, 0);
            ClassReader x = f.read();
            Due.is("SLOTS of " + row[0], () -> x.member(true, 0, 4), row[1]);
        }
        Object[][] fields = {{"I", 1}, {"J", 2}, {"D", 2}, {"F", 1}, {"[J", 1}, {"LJ;", 1}, {"Z", 1}};
        for (Object[] row : fields) {
            ClassFile f = new ClassFile();
            int self = f.cls("A");
            int type = f.text((String) row[0]);
            f.endPool().all(33, self, 0, 0, 1, 0, 1, type, 0, 0, 0);
            ClassReader x = f.read();
            Due.is("SLOTS of a FIELD " + row[0], () -> x.member(false, 0, 4), row[1]);
        }
    }

    private static void link(ClassReader x, int what, int k, int want) {
        Due.is("linkage(" + what + ", " + k + ")", () -> x.linkage(what, k), want);
    }

    /** The answers for k = -1, 0, 1 and so on, and that there is nothing beside them. */
    private static void list(ClassReader x, int what, int... want) {
        for (int k = -1; k + 1 < want.length; k++) {
            link(x, what, k, want[k + 1]);
        }
        for (int k : new int[] {want.length - 1, -2, FAR[0], FAR[1]}) {
            link(x, what, k, -2);
        }
    }

    private static void any(ClassReader x, int what, int want) {
        for (int k : new int[] {0, -1, -2, 1, 99, FAR[0], FAR[1]}) {
            link(x, what, k, want);
        }
    }

    private static ClassFile linked(String last) {
        ClassFile f = new ClassFile();
        f.cls("A");
        f.cls("[I");
        f.text("m");
        f.text("()V");
        f.two(12, 5, 6);
        f.two(10, 2, 7);
        f.handle(5, 8);
        f.handle(6, 8);
        f.text("EnclosingMethod");
        f.text("PermittedSubclasses");
        f.text("InnerClasses");
        f.text("BootstrapMethods");
        f.text(last);
        return f.endPool().all(33, 2, 0, 0, 0, 0);
    }

    private static void linkage() {
        ClassFile f = linked("NestMembers");
        f.u2(5).attribute(11, 4).all(4, 7).attribute(15, 8).all(3, 2, 4, 2).attribute(12, 4).all(1, 4);
        f.attribute(13, 18).all(2, 2, 4, 5, 65535, 4, 0, 0, 8);
        f.attribute(14, 16).all(2, 10, 3, 2, 9, 4, 9, 0);
        ClassReader x = f.read();
        any(x, 0, -2);
        any(x, 1, 4);
        any(x, 2, 7);
        list(x, 3, 3, 2, 4, 2);
        list(x, 4, 1, 4);
        list(x, 5, 2, 2, 4);
        list(x, 6, 2, 4, 0);
        list(x, 7, 2, 5, 0);
        list(x, 8, 2, 65535, 8);
        list(x, 9, 2, 10, 9);
        list(x, 10, 2, 3, 0);
        for (int what : new int[] {-1, 11, 12, -2, FAR[0], FAR[1]}) {
            any(x, what, -1);
        }
        ClassFile g = linked("NestHost");
        g.u2(2).attribute(15, 2).all(4).attribute(11, 4).all(2, 0);
        ClassReader y = g.read();
        any(y, 0, 4);
        any(y, 1, 2);
        any(y, 2, 0);
        list(y, 3, 0);
    }

    private static void without() {
        ClassReader x = linked("NestHost").u2(0).read();
        for (int what = 0; what <= 2; what++) {
            any(x, what, -2);
        }
        for (int what = 3; what <= 10; what++) {
            list(x, what, 0);
        }
    }

    /** What an earlier READING found is gone with the next one. */
    private static void latest() {
        ClassFile f = linked("NestHost");
        int countAt = f.size();
        f.u2(4).attribute(15, 2).all(4).attribute(11, 4).all(2, 7).attribute(12, 4).all(1, 4);
        f.attribute(14, 6).all(1, 10, 0);
        ClassReader x = f.read();
        link(x, 0, 0, 4);
        link(x, 1, 0, 2);
        list(x, 4, 1, 4);
        list(x, 9, 1, 10);
        x.patch(countAt + 1, 0);
        x.cut(countAt + 2);
        link(x, 0, 0, 4);
        Due.is("read() without ATTRIBUTES", x::read, f.next());
        for (int what = 0; what <= 2; what++) {
            any(x, what, -2);
        }
        for (int what = 3; what <= 10; what++) {
            list(x, what, 0);
        }
    }

    /** Each READING begins anew, however many came before. */
    private static void overAndOver() {
        ClassFile f = new ClassFile();
        f.cls("A");
        f.text("f");
        f.text("I");
        f.text("()V");
        f.text("InnerClasses");
        f.text("NestMembers");
        int i = f.next();
        int at = f.size();
        f.two(12, 3, 4);
        f.endPool().all(1024, 2, 0, 2, 2, 2).all(1, 0, 3, 4, 0).all(1, 1024, 3, 5, 0);
        int countAt = f.size();
        f.u2(2).attribute(6, 10).all(1, 2, 0, 0, 5).attribute(7, 6).all(2, 2, 2);
        ClassReader x = f.read();
        for (int n = 0; n < 60; n++) {
            Due.is("read() again", x::read, f.next());
        }
        whole(x, 3, 2);
        whole(x, 4, 1);
        whole(x, 5, 1);
        whole(x, 8, i);
        list(x, 3, 2, 2, 2);
        list(x, 8, 1, 5);
        Due.is("a CHARACTER", () -> x.text(2, 0), (int) 'A');
        Due.is("a second number", () -> x.entry(i, 2), 4);
        x.patch(at, 4);
        Due.is("read() with a FLOAT for the NAMING", x::read, f.next());
        Due.is("no second number", () -> x.entry(i, 2), 0);
        x.cut(countAt);
        Due.is("read() of a part", x::read, "IllegalArgumentException");
        x.bytes(0, 2);
        Due.is("read() without ATTRIBUTES", x::read, f.next());
        list(x, 3, 0);
        list(x, 8, 0);
        row(x, false, 1);
        row(x, true, 1);
    }
}
