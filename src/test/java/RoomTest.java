/** FILES that fill their 500 BYTES with as many things of one kind as go in. */
public final class RoomTest {
    private static final int LIMIT = 500;
    /** What a FILE ends with behind its head: no FIELD, no METHOD, no ATTRIBUTE. */
    private static final int TAIL = 14;

    public static void main(String[] args) {
        entries(7, 3);
        entries(3, 5);
        entries(5, 9);
        emptyTexts();
        interfaces();
        lists("NestMembers", 3);
        lists("PermittedSubclasses", 4);
        inner();
        bootstraps();
        fields();
        methods();
        exceptions();
        handlers();
        attributes();
        code();
        longTexts();
        longWords();
        counts();
        Due.end();
    }

    private static void full(ClassFile f, int least) {
        Due.is("BYTES of the FILE, from " + least + " on", () -> f.size() >= least && f.size() <= LIMIT, true);
    }

    private static void entries(int tag, int width) {
        ClassFile f = new ClassFile();
        int self = f.cls("A");
        while (f.size() + width + TAIL <= LIMIT) {
            if (tag == 7) {
                f.one(7, 1);
            } else if (tag == 3) {
                f.four(3, f.size());
            } else {
                f.eight(5, f.size());
            }
        }
        int last = f.next() - (tag == 5 ? 2 : 1);
        int at = f.size() - width;
        f.endPlain(self);
        full(f, LIMIT - width);
        ClassReader x = f.read();
        Due.is("the last ENTRY", () -> x.entry(last, 0), tag);
        Due.is("its place", () -> x.entry(last, 3), at);
        Due.is("none behind it", () -> x.entry(f.next(), 0), -2);
    }

    private static void emptyTexts() {
        ClassFile f = new ClassFile();
        int self = f.cls("A");
        while (f.size() + 3 + TAIL <= LIMIT) {
            f.text("");
        }
        f.endPlain(self);
        ClassReader x = f.read();
        Due.is("an empty TEXT", () -> x.text(f.next() - 1, -1), 0);
    }

    private static void interfaces() {
        ClassFile f = new ClassFile();
        int self = f.cls("A");
        int n = (LIMIT - f.size() - TAIL) / 2;
        f.endPool().all(0, self, 0, n);
        for (int i = 0; i < n; i++) {
            f.u2(self);
        }
        f.all(0, 0, 0);
        full(f, LIMIT - 1);
        ClassReader x = f.read();
        Due.is("interfaces", () -> x.whole(3), n);
        Due.is("interface 99", () -> x.whole(119), self);
    }

    private static void lists(String name, int what) {
        ClassFile f = new ClassFile();
        int self = f.cls("A");
        int text = f.text(name);
        f.endPool().all(0, self, 0, 0, 0, 0, 1);
        int n = (LIMIT - f.size() - 8) / 2;
        f.attribute(text, 2 + 2 * n).u2(n);
        for (int i = 0; i < n; i++) {
            f.u2(self);
        }
        full(f, LIMIT - 1);
        ClassReader x = f.read();
        Due.is(name, () -> x.linkage(what, -1), n);
        Due.is("the last of " + name, () -> x.linkage(what, n - 1), self);
        Due.is("none behind it", () -> x.linkage(what, n), -2);
    }

    private static void inner() {
        ClassFile f = new ClassFile();
        int self = f.cls("A");
        int text = f.text("InnerClasses");
        f.endPool().all(0, self, 0, 0, 0, 0, 1);
        int n = (LIMIT - f.size() - 8) / 8;
        f.attribute(text, 2 + 8 * n).u2(n);
        for (int i = 0; i < n; i++) {
            f.all(self, self, text, 1000 + i);
        }
        full(f, LIMIT - 7);
        ClassReader x = f.read();
        Due.is("rows", () -> x.linkage(5, -1), n);
        Due.is("the first row", () -> x.linkage(8, 0), 1000);
        Due.is("the last row", () -> x.linkage(8, n - 1), 999 + n);
    }

    private static void bootstraps() {
        ClassFile f = new ClassFile();
        int self = f.cls("A");
        int handle = f.handle(5, f.two(10, self, f.naming("m", "()V")));
        int text = f.text("BootstrapMethods");
        f.endPool().all(0, self, 0, 0, 0, 0, 1);
        int n = (LIMIT - f.size() - 8) / 4;
        f.attribute(text, 2 + 4 * n).u2(n);
        for (int i = 0; i < n; i++) {
            f.all(handle, 0);
        }
        full(f, LIMIT - 3);
        ClassReader x = f.read();
        Due.is("bootstrap methods", () -> x.linkage(9, -1), n);
        Due.is("the last one", () -> x.linkage(9, n - 1), handle);
    }

    /** Each FIELD has a name or a descriptor of its own. */
    private static void fields() {
        ClassFile f = new ClassFile();
        f.cls("A");
        String[] types = {"I", "J", "D", "F", "Z", "B"};
        for (String type : types) {
            f.text(type);
        }
        int names = 0;
        while (f.size() + 4 + 8 * (names + 1) * types.length + TAIL <= LIMIT) {
            f.text("" + (char) ('a' + names));
            names++;
        }
        int n = names * types.length;
        f.endPool().all(0, 2, 0, 0, n);
        for (int i = 0; i < n; i++) {
            f.all(0, 9 + i / types.length, 3 + i % types.length, 0);
        }
        f.all(0, 0);
        full(f, LIMIT - 52);
        ClassReader x = f.read();
        Due.is("FIELDS", () -> x.whole(4), n);
        Due.is("the name of the last one", () -> x.member(false, n - 1, 1), 8 + n / types.length);
        Due.is("none behind it", () -> x.member(false, n, 1), -2);
        f.set2(f.size() - 4 - 8 + 2, 9).set2(f.size() - 4 - 8 + 4, 3);
        f.faultAt("the last FIELD like the first", f.size() - 4 - 8 + 2);
    }

    private static void methods() {
        ClassFile f = new ClassFile();
        f.cls("A");
        String[] types = {"()V", "()I", "()J", "()D", "()F", "()Z", "()B"};
        for (String type : types) {
            f.text(type);
        }
        int names = 0;
        while (f.size() + 4 + 8 * (names + 1) * types.length + TAIL <= LIMIT) {
            f.text("" + (char) ('a' + names));
            names++;
        }
        int n = names * types.length;
        f.endPool().all(0, 2, 0, 0, 0, n);
        for (int i = 0; i < n; i++) {
            f.all(1024, 10 + i / types.length, 3 + i % types.length, 0);
        }
        f.all(0);
        full(f, LIMIT - 60);
        ClassReader x = f.read();
        Due.is("METHODS", () -> x.whole(5), n);
        Due.is("the descriptor of the last one", () -> x.member(true, n - 1, 2), 9);
    }

    private static void exceptions() {
        ClassFile f = new ClassFile();
        int self = f.cls("A");
        int text = f.text("Exceptions");
        int type = f.text("()V");
        f.endPool().all(0, self, 0, 0, 0, 1, 1024, 1, type, 1);
        int n = (LIMIT - f.size() - 10) / 2;
        f.attribute(text, 2 + 2 * n).u2(n);
        for (int i = 0; i < n; i++) {
            f.u2(self);
        }
        ClassReader x = f.u2(0).read();
        full(f, LIMIT - 1);
        Due.is("Exceptions", () -> x.member(true, 0, 7), n);
    }

    private static ClassFile method(int attributes) {
        ClassFile f = new ClassFile();
        f.cls("A");
        f.text("Code");
        f.text("()V");
        return f.endPool().all(0, 2, 0, 0, 0, 1, 0, 1, 4, attributes);
    }

    private static void handlers() {
        ClassFile f = method(1);
        int n = (LIMIT - f.size() - 6 - 13 - 4) / 8;
        f.attribute(3, 13 + 8 * n).all(0, 0).u4(1).u1(0).u2(n);
        for (int i = 0; i < n; i++) {
            f.all(0, 1, 0, 0);
        }
        ClassReader x = f.all(0, 0).read();
        full(f, LIMIT - 7);
        Due.is("rows", () -> x.member(true, 0, 6), n);
    }

    private static void attributes() {
        ClassFile g = new ClassFile();
        g.cls("A");
        g.text("I");
        g.endPool().all(0, 2, 0, 0, 1, 0, 1, 3);
        int n = (LIMIT - g.size() - 2 - 4) / 6;
        g.u2(n);
        for (int i = 0; i < n; i++) {
            g.attribute(1, 0);
        }
        ClassReader x = g.all(0, 0).read();
        full(g, LIMIT - 5);
        Due.is("ATTRIBUTES", () -> x.member(false, 0, 3), n);
    }

    private static void code() {
        ClassFile f = method(1);
        int n = LIMIT - f.size() - 6 - 12 - 2;
        f.attribute(3, 12 + n).all(0, 0).u4(n);
        for (int i = 0; i < n; i++) {
            f.u1(i);
        }
        ClassReader x = f.all(0, 0, 0).read();
        full(f, LIMIT);
        Due.is("BYTES of the Code", () -> x.member(true, 0, 5), n);
    }

    private static void longTexts() {
        ClassFile f = new ClassFile();
        int n = LIMIT - 10 - 3 - 3 - TAIL;
        String name = "x".repeat(n);
        int self = f.cls(name);
        f.endPlain(self);
        full(f, LIMIT);
        ClassReader x = f.read();
        Due.is("CHARACTERS", () -> x.text(self, -1), n);
        Due.is("the last one", () -> x.text(self, n - 1), (int) 'x');
        Due.is("its words", () -> x.told(self, -1), n);
    }

    private static void longWords() {
        ClassFile f = new ClassFile();
        f.cls("A");
        int n = LIMIT - f.size() - 3 - 3 - 3 - TAIL;
        int type = f.one(16, f.text("(" + "Z".repeat(n) + ")V"));
        f.endPlain(2);
        full(f, LIMIT);
        ClassReader x = f.read();
        Due.is("words", () -> x.told(type, -1), 6 + 7 * n + 2 * (n - 1));
        Due.is("the last CHARACTER", () -> x.told(type, 5 + 9 * n - 2), (int) ')');
        Due.is("a blank", () -> x.told(type, 5 + 9 * (n - 1) - 1), (int) ' ');
        ClassFile g = new ClassFile();
        g.cls("A");
        int depth = LIMIT - g.size() - 3 - 3 - 1 - TAIL;
        int array = g.cls("[".repeat(depth) + "Z");
        ClassReader y = g.endPlain(2).read();
        full(g, LIMIT);
        Due.is("words of an array", () -> y.told(array, -1), 7 + 2 * depth);
        Due.is("the last bracket", () -> y.told(array, 6 + 2 * depth), (int) ']');
    }

    /** Numbers that say far more than any FILE has. */
    private static void counts() {
        ClassFile f = new ClassFile();
        f.cls("A");
        f.endPlain(2);
        // The zeros behind are read as ENTRIES, interfaces, FIELDS, METHODS and ATTRIBUTES.
        int[][] places = {{8, 17}, {23, 25}, {25, 29}, {27, 31}, {29, 31}};
        for (int[] place : places) {
            byte[] file = f.bytes();
            file[place[0]] = -1;
            file[place[0] + 1] = -1;
            ClassReader x = ClassFile.load(file);
            Due.is("65535 at " + place[0], x::read, "IllegalArgumentException");
            Due.is("where()", x::where, place[1]);
        }
    }
}
