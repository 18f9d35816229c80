import java.util.Arrays;

/**
 * Writes a class file from its first byte to its last, so that size() is always the offset of what
 * comes next. The pool comes first, and its count is set by endPool.
 */
final class ClassFile {
    static final int UTF = 1;

    private byte[] bytes = new byte[64];
    private int size = 0;
    private int next = 1;

    ClassFile() {
        u4(0xCAFEBABE).u2(0).u2(52).u2(0);
    }

    /** A pool with the CLASS A: that is ENTRY 2, and its name is ENTRY 1. */
    static ClassFile start() {
        ClassFile f = new ClassFile();
        f.cls("A");
        return f;
    }

    int size() {
        return size;
    }

    /** The number that the next entry will have. */
    int next() {
        return next;
    }

    byte[] bytes() {
        return Arrays.copyOf(bytes, size);
    }

    ClassFile u1(int x) {
        if (size == bytes.length) {
            bytes = Arrays.copyOf(bytes, 2 * size);
        }
        bytes[size++] = (byte) x;
        return this;
    }

    ClassFile u2(int x) {
        return u1(x >> 8).u1(x);
    }

    ClassFile u4(int x) {
        return u2(x >> 16).u2(x);
    }

    /** Many numbers of two bytes. */
    ClassFile all(int... numbers) {
        for (int x : numbers) {
            u2(x);
        }
        return this;
    }

    ClassFile set2(int at, int x) {
        bytes[at] = (byte) (x >> 8);
        bytes[at + 1] = (byte) x;
        return this;
    }

    int text(String s) {
        int from = size + 3;
        u1(UTF).u2(0);
        for (int i = 0; i < s.length(); i++) {
            character(s.charAt(i));
        }
        set2(from - 2, size - from);
        return next++;
    }

    private void character(int c) {
        if (c >= 1 && c <= 127) {
            u1(c);
        } else if (c <= 2047) {
            u1(192 + c / 64).u1(128 + c % 64);
        } else {
            u1(224 + c / 4096).u1(128 + c / 64 % 64).u1(128 + c % 64);
        }
    }

    /** A text of just these bytes, well formed or not. */
    int rawText(int... raw) {
        u1(UTF).u2(raw.length);
        for (int b : raw) {
            u1(b);
        }
        return next++;
    }

    int one(int tag, int first) {
        u1(tag).u2(first);
        return next++;
    }

    int two(int tag, int first, int second) {
        u1(tag).u2(first).u2(second);
        return next++;
    }

    int handle(int kind, int named) {
        u1(15).u1(kind).u2(named);
        return next++;
    }

    int four(int tag, int bits) {
        u1(tag).u4(bits);
        return next++;
    }

    int eight(int tag, long bits) {
        u1(tag).u4((int) (bits >> 32)).u4((int) bits);
        next += 2;
        return next - 2;
    }

    int cls(String name) {
        return one(7, text(name));
    }

    int naming(String name, String descriptor) {
        return two(12, text(name), text(descriptor));
    }

    ClassFile endPool() {
        return set2(8, next);
    }

    /** Ends the pool; flags, this and super, no interface, no field, no method, no attribute. */
    ClassFile endPlain(int self) {
        return endPool().all(33, self, 0, 0, 0, 0, 0);
    }

    /** The head of an attribute: its name and its length. */
    ClassFile attribute(int name, int length) {
        return u2(name).u4(length);
    }

    ClassReader load() {
        return load(bytes());
    }

    /** Begins an attribute: the offset of its length, which close sets. */
    int open(int name) {
        u2(name).u4(0);
        return size - 4;
    }

    ClassFile close(int lengthAt) {
        return set2(lengthAt + 2, size - lengthAt - 4);
    }

    static ClassReader load(byte[] file) {
        ClassReader reader = new ClassReader();
        append(reader, file);
        return reader;
    }

    /** Puts this file behind what the reader has. */
    void loadInto(ClassReader reader) {
        append(reader, bytes());
    }

    private static void append(ClassReader reader, byte[] file) {
        for (int at = 0; at < file.length; at += 8) {
            int n = Math.min(8, file.length - at);
            long w = 0;
            for (int i = 0; i < n; i++) {
                w = w << 8 | file[at + i] & 255;
            }
            reader.bytes(w, n);
        }
    }

    /** A reader that has read this file, which must be without a fault. */
    ClassReader read() {
        ClassReader reader = load();
        Due.is("read()", reader::read, next);
        Due.is("where()", reader::where, ClassReader.NONE);
        return reader;
    }

    /** Reading this file must find its first fault at this place. */
    void faultAt(String what, int at) {
        ClassReader reader = load();
        Due.is(what + ": read()", reader::read, "IllegalArgumentException");
        Due.is(what + ": where()", reader::where, at);
        Due.is(what + ": whole(0)", () -> reader.whole(0), "IllegalStateException");
    }

    void isGood(String what) {
        ClassReader reader = load();
        Due.is(what + ": read()", reader::read, next);
        Due.is(what + ": where()", reader::where, ClassReader.NONE);
    }
}
