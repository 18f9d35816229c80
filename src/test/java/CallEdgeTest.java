import java.util.ArrayList;
import java.util.List;

/** The boundary cases of the face and of promises 1 to 4 and 7 to 13: a test for each sentence. */
public final class CallEdgeTest {
    private static final int LEAST = Integer.MIN_VALUE;
    private static final int MOST = Integer.MAX_VALUE;
    private static final String STATE = "IllegalStateException";

    private interface Asked {
        Object answer(ClassReader x);
    }

    public static void main(String[] args) {
        face();
        bytes();
        patch();
        cut();
        entry();
        number();
        text();
        told();
        whole();
        member();
        linkage();
        Due.end();
    }

    private static void face() {
        constantRefused();
        constantNone();
        constantFull();
        calls512();
        newFile();
        newReading();
    }

    private static void bytes() {
        lowestBytes();
        howManyBytes();
        otherLengths();
        moreThan500();
    }

    private static void patch() {
        patched();
        notPatched();
    }

    private static void cut() {
        firstBytes();
        notCut();
    }

    private static void entry() {
        entryTags();
        charactersCounted();
        firstU4();
        secondNumbers();
        offsetsOfTags();
        entryRefused();
        entryNone();
        entryUnread();
    }

    private static void number() {
        numberOfInt();
        numberOfLong();
        numberOfFloat();
        numberOfDouble();
        powersOfTwo();
        numberOfOthers();
        notFinite();
        numberUnread();
    }

    private static void text() {
        firstCharacter();
        textNamed();
        textCount();
        textNone();
        textUnread();
    }

    private static void told() {
        toldWords();
        toldBrackets();
        toldClass();
        toldType();
        toldNaming();
        toldMembers();
        toldOthers();
        toldCount();
        toldNone();
        toldUnread();
    }

    private static void whole() {
        wholeNumbers();
        wholeEntries();
        wholeInterfaces();
        wholeRefused();
        wholeUnread();
    }

    private static void member() {
        memberSlots();
        slotsInBrackets();
        memberValue();
        memberRows();
        memberThrown();
        memberAttributes();
        memberRefused();
        memberNone();
        memberUnread();
    }

    private static void linkage() {
        linkedOnce();
        linkedZero();
        linkedLists();
        linkedCounts();
        linkedNone();
        linkedRefused();
        linkageUnread();
    }

    /** The FILE of the CLASS A and nothing else. */
    private static ClassFile plain() {
        return ClassFile.start().endPlain(2);
    }

    /** A new object, one whose latest read had a FAULT, and one whose version was UNKNOWN. */
    private static void unread(String call, Asked asked) {
        ClassReader fresh = new ClassReader();
        Due.is(call + " of a new object", () -> asked.answer(fresh), STATE);
        ClassReader faulty = plain().read();
        faulty.patch(0, 0);
        Due.is("read() with a FAULT", faulty::read, "IllegalArgumentException");
        Due.is(call + " after a FAULT", () -> asked.answer(faulty), STATE);
        ClassReader unknown = plain().read();
        unknown.patch(7, 44);
        Due.is("read() of an UNKNOWN version", unknown::read, "UnsupportedOperationException");
        Due.is(call + " after an UNKNOWN version", () -> asked.answer(unknown), STATE);
    }

    // The public face.

    private static void constantRefused() {
        Due.by("REFUSED = -1");
        Due.is("REFUSED", () -> ClassReader.REFUSED, -1);
    }

    private static void constantNone() {
        Due.by("NONE = -2");
        Due.is("NONE", () -> ClassReader.NONE, -2);
    }

    private static void constantFull() {
        Due.by("FULL = -3");
        Due.is("FULL", () -> ClassReader.FULL, -3);
    }

    private static void calls512() {
        Due.by("An object is used for at most 512 calls after it has been made");
        ClassFile f = plain();
        ClassReader x = f.load();
        int loads = (f.size() + 7) / 8;
        for (int call = loads + 1; call < 512; call++) {
            Due.is("call " + call + ", read()", x::read, 3);
        }
        Due.is("call 512", () -> x.told(2, 0), (int) 'A');
    }

    // Promise 1.

    private static void newFile() {
        Due.by("The FILE is empty");
        ClassReader x = new ClassReader();
        Due.is("cut(1)", () -> x.cut(1), -1);
        Due.is("cut(0)", () -> x.cut(0), 0);
        Due.is("patch(0, 0)", () -> x.patch(0, 0), false);
        Due.is("bytes(0, 1)", () -> x.bytes(0, 1), 1);
    }

    private static void newReading() {
        Due.by("nothing was READ");
        ClassReader x = new ClassReader();
        Due.is("where()", x::where, -2);
        Due.is("whole(0)", () -> x.whole(0), STATE);
    }

    // Promise 2.

    /** A TEXT of these BYTES, put there by one call of bytes, tells where each BYTE went. */
    private static void lowestBytes() {
        Due.by("The lowest n (1 to 8) BYTES of w come to the end of the FILE, the highest of these first");
        for (int n = 1; n <= 8; n++) {
            ClassFile f = ClassFile.start();
            int from = f.size() + 3;
            f.text("xxxxxxxx".substring(0, n));
            byte[] file = f.endPlain(2).bytes();
            ClassReader x = ClassFile.load(file);
            x.cut(from);
            x.bytes(0x4142434445464748L, n);
            for (int i = from + n; i < file.length; i++) {
                x.bytes(0xFFFFFFFFFFFFFF00L | file[i], 1);
            }
            Due.is("read()", x::read, 4);
            for (int k = 0; k < n; k++) {
                int at = k;
                Due.is(n + " BYTES, the one at " + k, () -> x.text(3, at), (int) "ABCDEFGH".charAt(8 - n + k));
            }
        }
    }

    private static void howManyBytes() {
        Due.by("how many BYTES it has");
        ClassReader x = new ClassReader();
        Due.is("bytes(0, 1)", () -> x.bytes(0, 1), 1);
        Due.is("bytes(-1, 8)", () -> x.bytes(-1, 8), 9);
        Due.is("bytes(MIN, 7)", () -> x.bytes(Long.MIN_VALUE, 7), 16);
    }

    private static void otherLengths() {
        Due.by("REFUSED for another n");
        ClassReader x = new ClassReader();
        for (int n : new int[] {0, 9, -1, 16, LEAST, MOST, LEAST + 1, MOST - 7}) {
            Due.is("bytes(1, " + n + ")", () -> x.bytes(1, n), -1);
        }
        Due.is("no BYTE came", () -> x.bytes(1, 1), 1);
    }

    private static void moreThan500() {
        Due.by("FULL if that would be more than 500");
        for (int n = 1; n <= 8; n++) {
            int count = n;
            ClassReader x = filled(500 - n);
            Due.is("just 500", () -> x.bytes(0, count), 500);
            Due.is("one more", () -> x.bytes(0, 1), -3);
            ClassReader y = filled(501 - n);
            Due.is("501", () -> y.bytes(0, count), -3);
            Due.is("no BYTE came", () -> y.cut(501 - count), 0);
        }
        ClassReader z = filled(500);
        Due.is("508", () -> z.bytes(0, 8), -3);
        Due.is("a wrong n when it is full", () -> z.bytes(0, 0), -1);
        Due.is("a wrong n when it is full", () -> z.bytes(0, 9), -1);
    }

    private static ClassReader filled(int size) {
        ClassReader x = new ClassReader();
        for (int left = size; left > 0; left -= 8) {
            x.bytes(0, Math.min(8, left));
        }
        return x;
    }

    // Promise 3.

    private static void patched() {
        Due.by("BYTE at OFFSET at is b (0 to 255): true");
        ClassReader x = filled(500);
        for (int at : new int[] {0, 1, 498, 499}) {
            for (int b : new int[] {0, 1, 254, 255}) {
                Due.is("patch(" + at + ", " + b + ")", () -> x.patch(at, b), true);
            }
        }
        ClassFile f = plain();
        ClassReader y = f.load();
        Due.is("the first BYTE", () -> y.patch(0, 0), true);
        Due.is("read()", y::read, "IllegalArgumentException");
        Due.is("where()", y::where, 0);
        Due.is("the first BYTE", () -> y.patch(0, 0xCA), true);
        Due.is("read()", y::read, 3);
        Due.is("the last BYTE", () -> y.patch(f.size() - 1, 1), true);
        Due.is("read()", y::read, "IllegalArgumentException");
        Due.is("where()", y::where, f.size());
    }

    private static void notPatched() {
        Due.by("false if there is none there, or b is not as said");
        ClassFile f = plain();
        ClassReader x = f.load();
        for (int at : new int[] {-1, f.size(), f.size() + 1, 499, 500, LEAST, MOST}) {
            Due.is("patch(" + at + ", 1)", () -> x.patch(at, 1), false);
        }
        for (int b : new int[] {-1, 256, 0xCA + 256, LEAST, MOST}) {
            Due.is("patch(0, " + b + ")", () -> x.patch(0, b), false);
        }
        Due.is("nothing was changed", x::read, 3);
        x.cut(5);
        Due.is("patch(5, 0) behind what was cut off", () -> x.patch(5, 0), false);
        Due.is("patch(4, 0) before it", () -> x.patch(4, 0), true);
        Due.is("patch(0, 0) of an empty FILE", () -> new ClassReader().patch(0, 0), false);
        ClassReader full = filled(500);
        Due.is("patch(500, 0) of a full FILE", () -> full.patch(500, 0), false);
    }

    // Promise 4.

    private static void firstBytes() {
        Due.by("The FILE has its first n BYTES alone: how many went");
        ClassReader x = filled(500);
        Due.is("cut(500)", () -> x.cut(500), 0);
        Due.is("cut(499)", () -> x.cut(499), 1);
        Due.is("cut(1)", () -> x.cut(1), 498);
        Due.is("cut(0)", () -> x.cut(0), 1);
        Due.is("cut(0) of an empty FILE", () -> x.cut(0), 0);
        Due.is("BYTES come again", () -> x.bytes(0, 8), 8);
        ClassFile f = plain();
        ClassReader y = f.u1(9).load();
        Due.is("cut of the last BYTE", () -> y.cut(f.size() - 1), 1);
        Due.is("read() of the first ones", y::read, 3);
    }

    private static void notCut() {
        Due.by("REFUSED if n is not 0 to their number");
        ClassFile f = plain();
        ClassReader x = f.load();
        for (int n : new int[] {-1, f.size() + 1, 500, LEAST, MOST}) {
            Due.is("cut(" + n + ")", () -> x.cut(n), -1);
        }
        Due.is("nothing went", x::read, 3);
        Due.is("cut(1) of an empty FILE", () -> new ClassReader().cut(1), -1);
        Due.is("cut(501) of a full FILE", () -> filled(500).cut(501), -1);
    }

    // Promise 7.

    /** One ENTRY of each TAG; the numbers are those of the constants below. */
    private static ClassFile all() {
        ClassFile f = ClassFile.start();
        f.four(3, -1);
        f.four(4, LEAST);
        f.eight(5, 0xFFFFFFFF_80000000L);
        f.eight(6, 0x80000000_FFFFFFFFL);
        f.one(8, 1);
        f.text("()V");
        f.one(16, 10);
        f.two(12, 1, 10);
        f.text("I");
        f.two(12, 1, 13);
        f.two(9, 2, 14);
        f.two(10, 2, 12);
        f.two(11, 2, 12);
        f.handle(5, 16);
        f.two(17, 0, 14);
        f.two(18, 0, 12);
        f.text("BootstrapMethods");
        f.text("");
        f.rawText(0xC0, 0x80, 0xEF, 0xBF, 0xBF);
        return f.endPool().all(33, 2, 0, 0, 0, 0, 1).attribute(21, 6).all(1, 18, 0);
    }

    private static final int[] TAGS = {-2, 1, 7, 3, 4, 5, -2, 6, -2, 8, 1, 16, 12, 1, 12, 9, 10, 11, 15, 17, 18, 1, 1, 1};
    private static final int COUNT = 24;
    private static final int EMPTY = 22;
    private static final int LONG_CHARACTERS = 23;
    private static final int[] NO_ENTRIES = {0, 6, 8, COUNT, COUNT + 1, 65535, 65536, -1, -2, LEAST, MOST};

    private static void entryTags() {
        Due.by("Of ENTRY i what 0: its TAG");
        ClassReader x = all().read();
        for (int i = 0; i < COUNT; i++) {
            int k = i;
            Due.is("entry(" + i + ", 0)", () -> x.entry(k, 0), TAGS[i]);
        }
    }

    private static void charactersCounted() {
        Due.by("for TEXT how many CHARACTERS");
        ClassReader x = all().read();
        Due.is("of an empty TEXT", () -> x.entry(EMPTY, 1), 0);
        Due.is("of one of two and three BYTES", () -> x.entry(LONG_CHARACTERS, 1), 2);
        Due.is("of one of one BYTE", () -> x.entry(1, 1), 1);
    }

    private static void firstU4() {
        Due.by("for INT, FLOAT, LONG, DOUBLE the first u4, as an int");
        ClassReader x = all().read();
        Due.is("INT", () -> x.entry(3, 1), -1);
        Due.is("FLOAT", () -> x.entry(4, 1), LEAST);
        Due.is("LONG", () -> x.entry(5, 1), -1);
        Due.is("DOUBLE", () -> x.entry(7, 1), LEAST);
    }

    private static void secondNumbers() {
        Due.by("2: its second one (0 without; LONG and DOUBLE the second u4)");
        ClassReader x = all().read();
        Due.is("LONG", () -> x.entry(5, 2), LEAST);
        Due.is("DOUBLE", () -> x.entry(7, 2), -1);
        for (int i : new int[] {1, 2, 3, 4, 9, 11, EMPTY, LONG_CHARACTERS}) {
            Due.is("entry(" + i + ", 2)", () -> x.entry(i, 2), 0);
        }
        Due.is("HANDLE", () -> x.entry(18, 2), 16);
        Due.is("CALL", () -> x.entry(20, 2), 12);
    }

    private static void offsetsOfTags() {
        Due.by("3: the OFFSET of its TAG");
        ClassReader x = all().read();
        int[] widths = {4, 3, 5, 5, 9, 9, 3, 6, 3, 5, 4, 5, 5, 5, 5, 4, 5, 5, 19, 3};
        int at = 10;
        int i = 1;
        for (int width : widths) {
            int number = i;
            Due.is("entry(" + i + ", 3)", () -> x.entry(number, 3), at);
            at += width;
            i += TAGS[i] == 5 || TAGS[i] == 6 ? 2 : 1;
        }
        int last = at;
        Due.is("the last one", () -> x.entry(COUNT - 1, 3), last);
    }

    private static void entryRefused() {
        Due.by("REFUSED for another what");
        ClassReader x = all().read();
        for (int what : new int[] {-1, 4, 5, 6, LEAST, MOST}) {
            Due.is("entry(1, " + what + ")", () -> x.entry(1, what), -1);
            Due.is("entry(0, " + what + ")", () -> x.entry(0, what), -1);
        }
    }

    private static void entryNone() {
        Due.by("NONE if there is no such ENTRY");
        ClassReader x = all().read();
        for (int i : NO_ENTRIES) {
            for (int what = 0; what <= 3; what++) {
                int w = what;
                Due.is("entry(" + i + ", " + what + ")", () -> x.entry(i, w), -2);
            }
        }
    }

    private static void entryUnread() {
        Due.by("NONE if there is no such ENTRY. IllegalStateException if nothing is READ (this first).");
        unread("entry(2, 0)", x -> x.entry(2, 0));
        unread("entry(2, 4)", x -> x.entry(2, 4));
        unread("entry(0, 0)", x -> x.entry(0, 0));
    }

    // Promise 8.

    private static Object number(int tag, long bits) {
        ClassFile f = ClassFile.start();
        int i = tag < 5 ? f.four(tag, (int) bits) : f.eight(tag, bits);
        ClassReader x = f.endPlain(2).load();
        x.read();
        return x.number(i);
    }

    private static void numberOfInt() {
        Due.by("The value of ENTRY i: of an INT");
        for (int bits : new int[] {0, 1, -1, LEAST, MOST}) {
            Due.is("INT " + bits, () -> number(3, bits), (double) bits);
        }
    }

    private static void numberOfLong() {
        Due.by("LONG (to the nearest double, as a cast does)");
        long exact = 1L << 53;
        for (long bits : new long[] {0, -1, exact - 1, exact, exact + 1, exact + 2, exact + 3, -exact - 1, -exact - 3,
            Long.MAX_VALUE, Long.MIN_VALUE, Long.MAX_VALUE - 511, Long.MAX_VALUE - 512, 0xFFFFFFFFL, 1L << 32}) {
            Due.is("LONG " + bits, () -> number(5, bits), (double) bits);
        }
        Due.is("half way, to the even one", () -> number(5, exact + 1), 9007199254740992.0);
        Due.is("half way, to the even one", () -> number(5, exact + 3), 9007199254740996.0);
    }

    private static void numberOfFloat() {
        Due.by("FLOAT or DOUBLE; -1 for a TEXT");
        for (float value : new float[] {0f, -0f, Float.MIN_VALUE, -Float.MIN_VALUE, Math.nextDown(Float.MIN_NORMAL),
            Float.MIN_NORMAL, 1f, Math.nextUp(1f), Math.nextDown(1f), Float.MAX_VALUE, -Float.MAX_VALUE}) {
            Due.is("FLOAT " + value, () -> number(4, Float.floatToRawIntBits(value)), (double) value);
        }
    }

    /** Each power of two that is one, so that no exponent is left out. */
    private static void powersOfTwo() {
        Due.by("The value of ENTRY i");
        for (int exponent = -149; exponent <= 127; exponent++) {
            float value = (float) Math.pow(2, exponent);
            Due.is("FLOAT " + value, () -> number(4, Float.floatToRawIntBits(value)), (double) value);
        }
        for (int exponent = -1074; exponent <= 1023; exponent++) {
            double value = Math.pow(2, exponent);
            Due.is("DOUBLE " + value, () -> number(6, Double.doubleToRawLongBits(value)), value);
        }
    }

    private static void numberOfDouble() {
        Due.by("FLOAT or DOUBLE; -1 for a TEXT");
        for (double value : new double[] {0.0, -0.0, Double.MIN_VALUE, -Double.MIN_VALUE, Double.MIN_NORMAL, 1.0,
            Math.nextDown(Double.MIN_NORMAL), Math.nextUp(1.0), Math.nextDown(1.0), Double.MAX_VALUE, -Double.MAX_VALUE}) {
            Due.is("DOUBLE " + value, () -> number(6, Double.doubleToRawLongBits(value)), value);
        }
    }

    private static void numberOfOthers() {
        Due.by("-1 for a TEXT and all others, or if there is none");
        ClassReader x = all().read();
        for (int i : new int[] {1, 2, 9, 10, 11, 12, 14, 15, 16, 17, 18, 19, 20, EMPTY}) {
            Due.is("number(" + i + ")", () -> x.number(i), -1.0);
        }
        for (int i : NO_ENTRIES) {
            Due.is("number(" + i + ")", () -> x.number(i), -1.0);
        }
    }

    private static void notFinite() {
        Due.by("ArithmeticException if a FLOAT or DOUBLE is no number, or infinite");
        for (int bits : new int[] {0x7F800000, 0x7F800001, 0x7FC00000, 0x7FFFFFFF, 0xFF800000, 0xFF800001, -1}) {
            Due.is("FLOAT " + bits, () -> number(4, bits), "ArithmeticException");
        }
        Due.is("the FLOAT before", () -> number(4, 0x7F7FFFFF), (double) Float.MAX_VALUE);
        long infinite = 0x7FFL << 52;
        for (long bits : new long[] {infinite, infinite + 1, Long.MAX_VALUE, -1L << 52, (-1L << 52) + 1, -1L}) {
            Due.is("DOUBLE " + bits, () -> number(6, bits), "ArithmeticException");
        }
        Due.is("the DOUBLE before", () -> number(6, infinite - 1), Double.MAX_VALUE);
        Due.is("an INT of the same BYTES", () -> number(3, 0x7F800000), (double) 0x7F800000);
        Due.is("a LONG of the same BYTES", () -> number(5, infinite), (double) infinite);
    }

    private static void numberUnread() {
        Due.by("or infinite; IllegalStateException if nothing is READ (this first).");
        unread("number(0)", x -> x.number(0));
        unread("number(2)", x -> x.number(2));
        ClassFile f = ClassFile.start();
        int i = f.four(4, -1);
        ClassReader x = f.endPlain(2).read();
        x.patch(0, 0);
        Due.is("read()", x::read, "IllegalArgumentException");
        Due.is("a FLOAT that is no number", () -> x.number(i), STATE);
    }

    // Promise 9.

    private static void firstCharacter() {
        Due.by("CHARACTER k (0 the first) of ENTRY i, if that is a TEXT");
        ClassReader x = all().read();
        Due.is("the first", () -> x.text(10, 0), (int) '(');
        Due.is("the last", () -> x.text(10, 2), (int) 'V');
        Due.is("the least", () -> x.text(LONG_CHARACTERS, 0), 0);
        Due.is("the most", () -> x.text(LONG_CHARACTERS, 1), 65535);
    }

    private static void textNamed() {
        Due.by("or of the TEXT that it names, for CLASS, STRING and TYPE");
        ClassReader x = all().read();
        Due.is("CLASS", () -> x.text(2, 0), (int) 'A');
        Due.is("STRING", () -> x.text(9, 0), (int) 'A');
        Due.is("TYPE", () -> x.text(11, 2), (int) 'V');
    }

    private static void textCount() {
        Due.by("with k = -1 how many there are. NONE if there is none such, or it is another ENTRY, or none.");
        ClassReader x = all().read();
        int[][] counts = {{1, 1}, {2, 1}, {9, 1}, {10, 3}, {11, 3}, {EMPTY, 0}, {LONG_CHARACTERS, 2}};
        for (int[] row : counts) {
            Due.is("text(" + row[0] + ", -1)", () -> x.text(row[0], -1), row[1]);
        }
    }

    private static void textNone() {
        Due.by("NONE if there is none such, or it is another ENTRY, or none");
        ClassReader x = all().read();
        for (int[] row : new int[][] {{1, 1}, {2, 1}, {10, 3}, {11, 3}, {EMPTY, 0}, {LONG_CHARACTERS, 2}}) {
            for (int k : new int[] {row[1], row[1] + 1, -2, -3, LEAST, MOST}) {
                Due.is("text(" + row[0] + ", " + k + ")", () -> x.text(row[0], k), -2);
            }
        }
        for (int i : new int[] {3, 4, 5, 7, 12, 14, 15, 16, 17, 18, 19, 20}) {
            Due.is("text(" + i + ", 0)", () -> x.text(i, 0), -2);
            Due.is("text(" + i + ", -1)", () -> x.text(i, -1), -2);
        }
        for (int i : NO_ENTRIES) {
            Due.is("text(" + i + ", 0)", () -> x.text(i, 0), -2);
            Due.is("text(" + i + ", -1)", () -> x.text(i, -1), -2);
        }
    }

    private static void textUnread() {
        Due.by("or it is another ENTRY, or none. IllegalStateException if nothing is READ (this first).");
        unread("text(1, 0)", x -> x.text(1, 0));
        unread("text(0, -2)", x -> x.text(0, -2));
    }

    // Promise 10.

    private static String words(ClassReader x, int i) {
        StringBuilder s = new StringBuilder();
        int n = x.told(i, -1);
        for (int k = 0; k < n; k++) {
            s.append((char) x.told(i, k));
        }
        return s.toString();
    }

    private static void ofType(String descriptor, String want) {
        ClassFile f = ClassFile.start();
        int i = f.one(16, f.text(descriptor));
        ClassReader x = f.endPlain(2).read();
        Due.is("TYPE " + descriptor, () -> words(x, i), want);
    }

    private static void ofClass(String name, String want) {
        ClassFile f = ClassFile.start();
        int i = f.cls(name);
        ClassReader x = f.endPlain(2).read();
        Due.is("CLASS " + name, () -> words(x, i), want);
    }

    private static void ofNaming(String name, String descriptor, String want) {
        ClassFile f = ClassFile.start();
        int i = f.naming(name, descriptor);
        ClassReader x = f.endPlain(2).read();
        Due.is("NAMING " + name + " " + descriptor, () -> words(x, i), want);
    }

    private static void ofMember(int tag, String owner, String name, String descriptor, String want) {
        ClassFile f = ClassFile.start();
        int i = f.two(tag, f.cls(owner), f.naming(name, descriptor));
        ClassReader x = f.endPlain(2).read();
        Due.is("TAG " + tag + " " + owner + " " + name + " " + descriptor, () -> words(x, i), want);
    }

    private static void toldWords() {
        Due.by("CLASS and the descriptor of others as types: byte, char, double, float, int, long, short, "
                + "boolean, void");
        String[] basic = {"B byte", "C char", "D double", "F float", "I int", "J long", "S short", "Z boolean", "V void"};
        for (String row : basic) {
            ofType("()" + row.charAt(0), row.substring(2) + "()");
        }
    }

    private static void toldBrackets() {
        Due.by("a PATH with . for /, [] behind for each [");
        ofNaming("f", "La;", "a f");
        ofNaming("f", "La/b/c;", "a.b.c f");
        ofNaming("f", "[La/b;", "a.b[] f");
        ofNaming("f", "[[[I", "int[][][] f");
    }

    private static void toldClass() {
        Due.by("A CLASS is its type");
        ofClass("a/b", "a.b");
        ofClass("I", "I");
        ofClass("[I", "int[]");
        ofClass("[[La/b;", "a.b[][]");
    }

    private static void toldType() {
        Due.by("TYPE is the type behind ), and the types in the brackets, with a comma and a blank between "
                + "them, in ( and )");
        ofType("()V", "void()");
        ofType("(I)V", "void(int)");
        ofType("(IJ)V", "void(int, long)");
        ofType("([I[La;D)[[Z", "boolean[][](int[], a[], double)");
        ofType("(La)b;)Lc)d;", "c)d(a)b)");
    }

    private static void toldNaming() {
        Due.by("NAMING with a FIELD DESCRIPTOR: the type, a blank, the name; with a METHOD DESCRIPTOR: the "
                + "type, a blank, the name, and ( types ) as for TYPE");
        ofNaming("f", "I", "int f");
        ofNaming("m", "()V", "void m()");
        ofNaming("<init>", "(II)V", "void <init>(int, int)");
        ofNaming("x y", "LI;", "I x y");
    }

    private static void toldMembers() {
        Due.by("FIELD, METHOD and FACE: the same as their NAMING, with the type of their CLASS and a . before "
                + "the name");
        ofMember(9, "a/b", "f", "I", "int a.b.f");
        ofMember(10, "[I", "m", "()V", "void int[].m()");
        ofMember(11, "I", "m", "(I)I", "int I.m(int)");
        ClassFile f = new ClassFile();
        f.one(7, 2);
        f.text("A");
        f.text("I");
        f.two(12, 2, 3);
        f.two(9, 1, 4);
        ClassReader x = f.endPlain(1).read();
        Due.is("a FIELD of the first ENTRY", () -> words(x, 5), "int A.A");
    }

    private static void toldOthers() {
        Due.by("Others have none.");
        ClassReader x = all().read();
        for (int i : new int[] {1, 3, 4, 5, 7, 9, 10, 18, 19, 20, EMPTY}) {
            Due.is("told(" + i + ", -1)", () -> x.told(i, -1), 0);
            Due.is("told(" + i + ", 0)", () -> x.told(i, 0), -2);
        }
    }

    private static void toldCount() {
        Due.by("CHARACTER k of it; with k = -1 how many there are (0 without)");
        ClassReader x = all().read();
        Due.is("of a CLASS", () -> x.told(2, -1), 1);
        Due.is("its first", () -> x.told(2, 0), (int) 'A');
        Due.is("of a TYPE", () -> x.told(11, -1), 6);
        Due.is("its last", () -> x.told(11, 5), (int) ')');
        Due.is("of a METHOD", () -> x.told(16, -1), 10);
        Due.is("of a STRING", () -> x.told(9, -1), 0);
    }

    private static void toldNone() {
        Due.by("NONE for another k, or if there is no such ENTRY");
        ClassReader x = all().read();
        for (int[] row : new int[][] {{2, 1}, {11, 6}, {16, 10}, {1, 0}}) {
            for (int k : new int[] {row[1], row[1] + 1, -2, -3, LEAST, MOST}) {
                Due.is("told(" + row[0] + ", " + k + ")", () -> x.told(row[0], k), -2);
            }
        }
        for (int i : NO_ENTRIES) {
            Due.is("told(" + i + ", -1)", () -> x.told(i, -1), -2);
            Due.is("told(" + i + ", 0)", () -> x.told(i, 0), -2);
        }
    }

    private static void toldUnread() {
        Due.by("NONE for another k, or if there is no such ENTRY. IllegalStateException if nothing is READ "
                + "(this first).");
        unread("told(2, 0)", x -> x.told(2, 0));
        unread("told(0, -2)", x -> x.told(0, -2));
    }

    // Promise 11.

    private static void due(ClassReader x, int what, int want) {
        Due.is("whole(" + what + ")", () -> x.whole(what), want);
    }

    private static void wholeNumbers() {
        Due.by("Of the whole what 0: flags, 1: this, 2: super, 3: how many interfaces, 4: FIELDS, 5: METHODS, "
                + "6: the major, 7: the minor version");
        ClassReader least = ClassFile.start().endPool().set2(6, 45).all(0, 2, 0, 0, 0, 0, 0).read();
        int[] low = {0, 2, 0, 0, 0, 0, 45, 0};
        for (int what = 0; what < low.length; what++) {
            due(least, what, low[what]);
        }
        ClassFile f = ClassFile.start();
        f.text("I");
        f.text("()V");
        f.endPool().set2(4, 65535).set2(6, 69).all(65535 - 16, 2, 2, 1, 2).all(1, 0, 1, 3, 0).all(1, 256, 1, 4, 0, 0);
        ClassReader most = f.read();
        int[] high = {65535 - 16, 2, 2, 1, 1, 1, 69, 65535};
        for (int what = 0; what < high.length; what++) {
            due(most, what, high[what]);
        }
    }

    private static void wholeEntries() {
        Due.by("8: how many ENTRIES there are");
        due(plain().read(), 8, 2);
        due(all().read(), 8, 21);
    }

    private static ClassReader withInterfaces(int n) {
        ClassFile f = ClassFile.start();
        f.cls("B");
        f.endPool().all(0, 2, 0, n);
        for (int k = 0; k < n; k++) {
            f.u2(k == n - 1 ? 4 : 2);
        }
        return f.all(0, 0, 0).read();
    }

    private static void wholeInterfaces() {
        Due.by("20 + k: interface k (NONE if there is none, k up to 99)");
        ClassReader none = withInterfaces(0);
        due(none, 20, -2);
        due(none, 119, -2);
        ClassReader two = withInterfaces(2);
        due(two, 20, 2);
        due(two, 21, 4);
        due(two, 22, -2);
        ClassReader most = withInterfaces(100);
        due(most, 118, 2);
        due(most, 119, 4);
        ClassReader more = withInterfaces(101);
        due(more, 3, 101);
        due(more, 119, 2);
        due(more, 120, -1);
    }

    private static void wholeRefused() {
        Due.by("REFUSED for others.");
        ClassReader x = withInterfaces(2);
        for (int what : new int[] {-1, 9, 10, 18, 19, 120, 121, -20, LEAST, MOST}) {
            due(x, what, -1);
        }
    }

    private static void wholeUnread() {
        Due.by("REFUSED for others. IllegalStateException if nothing is READ (this first).");
        unread("whole(0)", x -> x.whole(0));
        unread("whole(9)", x -> x.whole(9));
        unread("whole(20)", x -> x.whole(20));
    }

    // Promise 12.

    /** FIELDS 0 and 1, METHODS 0 and 1: the first ones have all there is, the others nothing. */
    private static ClassFile members() {
        ClassFile f = ClassFile.start();
        f.text("I");
        f.four(3, 7);
        f.text("ConstantValue");
        f.text("(I)V");
        f.text("Code");
        f.text("Exceptions");
        f.text("()V");
        f.endPool().all(0, 2, 0, 0);
        f.all(2, 25, 1, 3, 1).attribute(5, 2).u2(4).all(0, 3, 3, 0);
        f.all(2, 1, 1, 6, 2).attribute(7, 21).all(0, 0).u4(1).u1(0).all(1, 0, 1, 0, 0, 0).attribute(8, 6).all(2, 2, 2);
        return f.all(1024, 1, 9, 0).all(0);
    }

    private static void due(ClassReader x, boolean method, int k, int what, int want) {
        Due.is("member(" + method + ", " + k + ", " + what + ")", () -> x.member(method, k, what), want);
    }

    private static void memberSlots() {
        Due.by("4: SLOTS of a METHOD, for a FIELD 2 if it is of J or D, else 1");
        slots(false, "I", 1);
        slots(false, "J", 2);
        slots(false, "D", 2);
        slots(false, "F", 1);
        slots(false, "[J", 1);
        slots(false, "[D", 1);
        slots(false, "LJ;", 1);
        slots(true, "(I)V", 1);
    }

    private static void slotsInBrackets() {
        Due.by("Its SLOTS are the number of those in the brackets, J and D counting twice.");
        slots(true, "()V", 0);
        slots(true, "()J", 0);
        slots(true, "(I)D", 1);
        slots(true, "(J)V", 2);
        slots(true, "(D)V", 2);
        slots(true, "([J)V", 1);
        slots(true, "(LD;)V", 1);
        slots(true, "(LJ;LD;)V", 2);
        slots(true, "(La)J;)V", 1);
        slots(true, "(JID)V", 5);
        slots(true, "(" + "J".repeat(300) + ")V", 600);
    }

    private static void slots(boolean method, String descriptor, int want) {
        ClassFile f = ClassFile.start();
        int type = f.text(descriptor);
        f.endPool().all(0, 2, 0, 0);
        if (method) {
            f.u2(0);
        }
        f.all(1, method ? 1024 : 0, 1, type, 0);
        if (!method) {
            f.u2(0);
        }
        Due.is("SLOTS of " + descriptor, () -> {
            ClassReader x = f.u2(0).load();
            x.read();
            return x.member(method, 0, 4);
        }, want);
    }

    private static void memberValue() {
        Due.by("5: the ENTRY of its ConstantValue, or how many BYTES its Code has (NONE without)");
        ClassReader x = members().read();
        due(x, false, 0, 5, 4);
        due(x, false, 1, 5, -2);
        due(x, true, 0, 5, 1);
        due(x, true, 1, 5, -2);
    }

    private static void memberRows() {
        Due.by("6: how many rows the table of the Code has (NONE without)");
        ClassReader x = members().read();
        due(x, true, 0, 6, 1);
        due(x, true, 1, 6, -2);
        due(x, false, 0, 6, -2);
        ClassFile f = ClassFile.start();
        f.text("Code");
        f.text("()V");
        f.endPool().all(0, 2, 0, 0, 0, 1, 0, 1, 4, 1).attribute(3, 13).all(0, 0).u4(1).u1(0).all(0, 0, 0);
        due(f.read(), true, 0, 6, 0);
    }

    private static void memberThrown() {
        Due.by("7: how many Exceptions are named (0 without)");
        ClassReader x = members().read();
        due(x, true, 0, 7, 2);
        due(x, true, 1, 7, 0);
        due(x, false, 0, 7, 0);
        due(x, false, 1, 7, 0);
    }

    private static void memberAttributes() {
        Due.by("3: how many ATTRIBUTES it has");
        ClassReader x = members().read();
        due(x, false, 0, 3, 1);
        due(x, false, 1, 3, 0);
        due(x, true, 0, 3, 2);
        due(x, true, 1, 3, 0);
    }

    private static void memberRefused() {
        Due.by("7: how many Exceptions are named (0 without). REFUSED for another what");
        ClassReader x = members().read();
        for (int what : new int[] {-1, 8, 9, LEAST, MOST}) {
            due(x, false, 0, what, -1);
            due(x, true, 1, what, -1);
            due(x, true, 2, what, -1);
            due(x, false, -1, what, -1);
        }
    }

    private static void memberNone() {
        Due.by("NONE if there is no such one");
        ClassReader x = members().read();
        for (int k : new int[] {-1, 2, 3, 100, LEAST, MOST}) {
            for (int what = 0; what <= 7; what++) {
                due(x, false, k, what, -2);
                due(x, true, k, what, -2);
            }
        }
        ClassReader y = plain().read();
        due(y, false, 0, 0, -2);
        due(y, true, 0, 7, -2);
    }

    private static void memberUnread() {
        Due.by("NONE if there is no such one. IllegalStateException if nothing is READ (this first).");
        unread("member(false, 0, 0)", x -> x.member(false, 0, 0));
        unread("member(true, 0, 8)", x -> x.member(true, 0, 8));
        unread("member(true, -1, 0)", x -> x.member(true, -1, 0));
    }

    // Promise 13.

    /** The ATTRIBUTES of the whole that can stand together, each list with this many rows. */
    private static ClassFile linked(int rows, boolean host) {
        ClassFile f = ClassFile.start();
        f.text("m");
        f.text("()V");
        f.two(12, 3, 4);
        f.two(10, 2, 5);
        f.handle(5, 6);
        f.text(host ? "NestHost" : "NestMembers");
        f.text("PermittedSubclasses");
        f.text("InnerClasses");
        f.text("BootstrapMethods");
        f.text("EnclosingMethod");
        f.endPool().all(0, 2, 0, 0, 0, 0, 5);
        if (host) {
            f.attribute(8, 2).u2(2);
        } else {
            f.attribute(8, 2 + 2 * rows);
            repeat(f, rows, 2);
        }
        f.attribute(9, 2 + 2 * rows);
        repeat(f, rows, 2);
        f.attribute(10, 2 + 8 * rows);
        repeat(f, rows, 2, 2, 3, 65535);
        f.attribute(11, 2 + 6 * rows);
        repeat(f, rows, 7, 1, 2);
        return f.attribute(12, 4).all(2, host ? 5 : 0);
    }

    private static void repeat(ClassFile f, int rows, int... row) {
        f.u2(rows);
        for (int i = 0; i < rows; i++) {
            f.all(row);
        }
    }

    private static void link(ClassReader x, int what, int k, int want) {
        Due.is("linkage(" + what + ", " + k + ")", () -> x.linkage(what, k), want);
    }

    private static void linkedOnce() {
        Due.by("what 0: the CLASS of NestHost, 1: of EnclosingMethod, 2: the NAMING of that (NONE without these "
                + "ATTRIBUTES; k is not looked at)");
        ClassReader with = linked(1, true).read();
        ClassReader without = plain().read();
        for (int k : new int[] {0, -1, -2, 1, 99, LEAST, MOST}) {
            link(with, 0, k, 2);
            link(with, 1, k, 2);
            link(with, 2, k, 5);
            for (int what = 0; what <= 2; what++) {
                link(without, what, k, -2);
            }
        }
    }

    /** The numbers that may be 0 are told as they stand. */
    private static void linkedZero() {
        Due.by("EnclosingMethod: u2 a CLASS, u2 a NAMING or 0");
        link(linked(0, false).read(), 2, 0, 0);
        ClassFile f = ClassFile.start();
        f.text("InnerClasses");
        f.endPool().all(0, 2, 0, 0, 0, 0, 1).attribute(3, 10).all(1, 2, 0, 0, 0);
        ClassReader x = f.read();
        link(x, 5, 0, 2);
        link(x, 6, 0, 0);
        link(x, 7, 0, 0);
        link(x, 8, 0, 0);
    }

    private static void linkedLists() {
        Due.by("3: CLASS k (0 the first) of NestMembers, 4: of PermittedSubclasses; 5 to 8: of row k of "
                + "InnerClasses the CLASS, the outer one, the name, the flags; 9: the HANDLE of bootstrap method "
                + "k, 10: how many further ENTRIES it names");
        ClassReader x = linked(2, false).read();
        int[] want = {2, 2, 2, 2, 3, 65535, 7, 1};
        for (int what = 3; what <= 10; what++) {
            link(x, what, 0, want[what - 3]);
            link(x, what, 1, want[what - 3]);
        }
    }

    private static void linkedCounts() {
        Due.by("with k = -1 (what 3 to 10): how many CLASSES, rows or bootstrap methods there are (0 without)");
        List<ClassReader> readers = new ArrayList<>();
        for (int rows = 0; rows <= 2; rows++) {
            readers.add(linked(rows, false).read());
        }
        ClassReader without = plain().read();
        for (int what = 3; what <= 10; what++) {
            for (int rows = 0; rows <= 2; rows++) {
                link(readers.get(rows), what, -1, rows);
            }
            link(without, what, -1, 0);
        }
    }

    private static void linkedNone() {
        Due.by("NONE if there is none such. REFUSED");
        ClassReader two = linked(2, false).read();
        ClassReader empty = linked(0, false).read();
        ClassReader without = plain().read();
        for (int what = 3; what <= 10; what++) {
            for (int k : new int[] {2, 3, 500, -2, -3, LEAST, MOST}) {
                link(two, what, k, -2);
            }
            link(empty, what, 0, -2);
            link(without, what, 0, -2);
        }
    }

    private static void linkedRefused() {
        Due.by("NONE if there is none such. REFUSED for another what.");
        ClassReader x = linked(1, true).read();
        for (int what : new int[] {-1, 11, 12, LEAST, MOST}) {
            for (int k : new int[] {-1, 0, 1, LEAST, MOST}) {
                link(x, what, k, -1);
            }
        }
    }

    private static void linkageUnread() {
        Due.by("REFUSED for another what. IllegalStateException if nothing is READ (this first).");
        for (int what : new int[] {-1, 0, 1, 2, 3, 5, 9, 10, 11}) {
            unread("linkage(" + what + ", -1)", x -> x.linkage(what, -1));
        }
    }
}
