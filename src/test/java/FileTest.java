/** Promises 1 to 4: a new object, bytes, patch, cut. */
public final class FileTest {
    public static void main(String[] args) {
        newObject();
        bytes();
        full();
        patch();
        cut();
        Due.end();
    }

    private static void newObject() {
        ClassReader x = new ClassReader();
        Due.is("new: where()", x::where, -2);
        Due.is("new: entry", () -> x.entry(1, 0), "IllegalStateException");
        Due.is("new: entry of a wrong what", () -> x.entry(1, 9), "IllegalStateException");
        Due.is("new: number", () -> x.number(1), "IllegalStateException");
        Due.is("new: text", () -> x.text(1, 0), "IllegalStateException");
        Due.is("new: told", () -> x.told(1, 0), "IllegalStateException");
        Due.is("new: whole", () -> x.whole(0), "IllegalStateException");
        Due.is("new: whole of a wrong what", () -> x.whole(-1), "IllegalStateException");
        Due.is("new: member", () -> x.member(false, 0, 0), "IllegalStateException");
        Due.is("new: member of a wrong what", () -> x.member(true, 0, 8), "IllegalStateException");
        Due.is("new: linkage", () -> x.linkage(0, 0), "IllegalStateException");
        Due.is("new: linkage of a wrong what", () -> x.linkage(11, 0), "IllegalStateException");
        Due.is("new: cut(1)", () -> x.cut(1), -1);
        Due.is("new: cut(0)", () -> x.cut(0), 0);
        Due.is("new: patch(0, 0)", () -> x.patch(0, 0), false);
        Due.is("new: read()", x::read, "IllegalArgumentException");
        Due.is("new: where() after read", x::where, 0);
        Due.is("two objects are apart", () -> new ClassReader().where(), -2);
    }

    private static void bytes() {
        ClassReader x = new ClassReader();
        Due.is("bytes(1, 0)", () -> x.bytes(1, 0), -1);
        Due.is("bytes(1, 9)", () -> x.bytes(1, 9), -1);
        Due.is("bytes(1, -1)", () -> x.bytes(1, -1), -1);
        Due.is("bytes(1, MIN)", () -> x.bytes(1, Integer.MIN_VALUE), -1);
        Due.is("bytes(1, MAX)", () -> x.bytes(1, Integer.MAX_VALUE), -1);
        Due.is("bytes of one", () -> x.bytes(0xFFCAL, 1), 1);
        Due.is("bytes of three", () -> x.bytes(0x11FEBABEL, 3), 4);
        Due.is("bytes of eight", () -> x.bytes(0x0000003400010021L, 8), 12);
        Due.is("read() comes as far as this", x::read, "IllegalArgumentException");
        Due.is("where()", x::where, 12);
        for (int n = 1; n <= 8; n++) {
            ClassReader y = new ClassReader();
            int count = n;
            Due.is("bytes(-1, " + n + ")", () -> y.bytes(-1L, count), n);
        }
        // The eight lowest BYTES, the highest first: just the head of a class file.
        ClassReader z = new ClassReader();
        z.bytes(0xCAFEBABE_0000_0034L, 8);
        z.bytes(0, 2);
        Due.is("a count of 0", z::read, "IllegalArgumentException");
        Due.is("where()", z::where, 8);
    }

    private static void full() {
        ClassReader x = new ClassReader();
        for (int i = 1; i <= 62; i++) {
            int size = 8 * i;
            Due.is("bytes", () -> x.bytes(0, 8), size);
        }
        Due.is("496 and 8", () -> x.bytes(0, 8), -3);
        Due.is("496 and 5", () -> x.bytes(0, 5), -3);
        Due.is("a wrong n before the room", () -> x.bytes(0, 9), -1);
        Due.is("496 and 4", () -> x.bytes(0, 4), 500);
        Due.is("500 and 1", () -> x.bytes(0, 1), -3);
        Due.is("500 and 0", () -> x.bytes(0, 0), -1);
        Due.is("patch(499, 255)", () -> x.patch(499, 255), true);
        Due.is("patch(500, 255)", () -> x.patch(500, 255), false);
        Due.is("cut(500)", () -> x.cut(500), 0);
        Due.is("cut(501)", () -> x.cut(501), -1);
        Due.is("cut(499)", () -> x.cut(499), 1);
        Due.is("499 and 1", () -> x.bytes(7, 1), 500);
    }

    private static void patch() {
        ClassFile f = new ClassFile();
        int self = f.cls("A");
        byte[] file = f.endPlain(self).bytes();
        ClassReader x = ClassFile.load(file);
        Due.is("patch(-1, 0)", () -> x.patch(-1, 0), false);
        Due.is("patch(MIN, 0)", () -> x.patch(Integer.MIN_VALUE, 0), false);
        Due.is("patch behind the last", () -> x.patch(file.length, 0), false);
        Due.is("patch the last", () -> x.patch(file.length - 1, 0), true);
        Due.is("patch the first", () -> x.patch(0, 0xCA), true);
        Due.is("patch(0, -1)", () -> x.patch(0, -1), false);
        Due.is("patch(0, 256)", () -> x.patch(0, 256), false);
        Due.is("nothing was changed", x::read, 3);
        Due.is("patch(13, 255)", () -> x.patch(13, 255), true);
        Due.is("read() with a wrong character", x::read, "IllegalArgumentException");
        Due.is("where()", x::where, 13);
        Due.is("patch(13, 'B')", () -> x.patch(13, 'B'), true);
        Due.is("read() with a good one", x::read, 3);
        Due.is("the character", () -> x.text(1, 0), (int) 'B');
        x.patch(13, 'C');
        Due.is("what was READ stays", () -> x.text(1, 0), (int) 'B');
    }

    private static void cut() {
        ClassFile f = new ClassFile();
        int self = f.cls("A");
        byte[] file = f.endPlain(self).bytes();
        ClassReader x = ClassFile.load(file);
        Due.is("cut(-1)", () -> x.cut(-1), -1);
        Due.is("cut(MIN)", () -> x.cut(Integer.MIN_VALUE), -1);
        Due.is("cut of more", () -> x.cut(file.length + 1), -1);
        Due.is("cut of all", () -> x.cut(file.length), 0);
        Due.is("read()", x::read, 3);
        Due.is("cut to 12", () -> x.cut(12), file.length - 12);
        Due.is("what was READ stays", () -> x.text(1, 0), (int) 'A');
        Due.is("bytes go on there", () -> x.bytes(1, 1), 13);
        Due.is("read() of a part", x::read, "IllegalArgumentException");
        Due.is("where()", x::where, 13);
        Due.is("cut to 0", () -> x.cut(0), 13);
        Due.is("an empty FILE", x::read, "IllegalArgumentException");
        Due.is("where()", x::where, 0);
        Due.is("where() stays when the FILE grows", () -> x.bytes(1, 8) + x.where(), 8);
    }
}
