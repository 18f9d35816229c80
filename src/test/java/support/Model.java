import java.util.ArrayList;
import java.util.HashMap;
import java.util.HashSet;
import java.util.List;
import java.util.Map;
import java.util.Set;
import java.util.regex.Matcher;
import java.util.regex.Pattern;

/**
 * The same document read a second time, in another manner: texts are Strings, the grammar is
 * patterns, what was read is lists and maps. ModelTest compares it with the class.
 */
final class Model {
    static final int REFUSED = -1;
    static final int NONE = -2;

    private static final String NAME = "[^.;\\[/]++";
    private static final String PATH = NAME + "(?:/" + NAME + ")*+";
    private static final String TYPE = "\\[*+(?:[BCDFIJSZ]|L" + PATH + ";)";
    private static final Pattern SIMPLE = Pattern.compile(NAME);
    private static final Pattern PATHS = Pattern.compile(PATH);
    private static final Pattern FIELD_TYPE = Pattern.compile(TYPE);
    private static final Pattern METHOD_TYPE = Pattern.compile("\\(((?:" + TYPE + ")*+)\\)(V|" + TYPE + ")");
    private static final Pattern METHOD_NAME = Pattern.compile("<init>|<clinit>|[^.;\\[/<>]++");

    static final class Fault extends RuntimeException {
        private static final long serialVersionUID = 1L;
        final int at;
        final boolean version;

        Fault(int at, boolean version) {
            this.at = at;
            this.version = version;
        }
    }

    record Entry(int tag, int at, int first, int second, String text) {
    }

    static final class Member {
        int flags;
        int name;
        int descriptor;
        int attributes;
        int slots;
        int value = NONE;
        int rows = NONE;
        int thrown;
    }

    private final int[] file;
    private int p = 0;

    final Map<Integer, Entry> entries = new HashMap<>();
    int count;
    int minor;
    int major;
    int flags;
    int self;
    int parent;
    final List<Integer> interfaces = new ArrayList<>();
    final List<Member> fields = new ArrayList<>();
    final List<Member> methods = new ArrayList<>();
    final List<Integer> nest = new ArrayList<>();
    final List<Integer> permitted = new ArrayList<>();
    final List<int[]> inner = new ArrayList<>();
    final List<int[]> bootstraps = new ArrayList<>();
    int host = NONE;
    int enclosingClass = NONE;
    int enclosingNaming = NONE;

    Model(byte[] bytes) {
        file = new int[bytes.length];
        for (int i = 0; i < bytes.length; i++) {
            file[i] = bytes[i] & 255;
        }
    }

    private static void want(boolean good, int at) {
        if (!good) {
            throw new Fault(at, false);
        }
    }

    private long u(int n) {
        long x = 0;
        for (int i = 0; i < n; i++) {
            want(p < file.length, file.length);
            x = 256 * x + file[p++];
        }
        return x;
    }

    private int u2() {
        return (int) u(2);
    }

    void read() {
        want(u(4) == 3405691582L, 0);
        minor = u2();
        major = u2();
        if (major < 45 || major > 69 || major >= 56 && minor != 0 && minor != 65535) {
            throw new Fault(4, true);
        }
        pool();
        for (int i = 1; i < count; i++) {
            if (entries.containsKey(i)) {
                want(sound(entries.get(i)), entries.get(i).at);
            }
        }
        head();
        int n = u2();
        for (int i = 0; i < n; i++) {
            fields.add(field());
        }
        n = u2();
        for (int i = 0; i < n; i++) {
            methods.add(method());
        }
        attributes("whole", new Member());
        want(p == file.length, p);
        for (int i = 1; i < count; i++) {
            int tag = tag(i);
            want(tag != 17 && tag != 18 || entries.get(i).first < bootstraps.size(), tag > 0 ? entries.get(i).at : 0);
        }
    }

    private void pool() {
        count = u2();
        want(count > 0, 8);
        int i = 1;
        while (i < count) {
            int at = p;
            int tag = (int) u(1);
            String text = null;
            int first = 0;
            int second = 0;
            if (tag == 1) {
                text = chars(u2());
                first = text.length();
            } else if (tag == 3 || tag == 4) {
                first = (int) u(4);
            } else if (tag == 5 || tag == 6) {
                want(i + 1 != count, at);
                first = (int) u(4);
                second = (int) u(4);
            } else if (tag == 7 || tag == 8 || tag == 16) {
                first = u2();
            } else if (tag >= 9 && tag <= 12 || tag == 17 || tag == 18) {
                first = u2();
                second = u2();
            } else if (tag == 15) {
                first = (int) u(1);
                second = u2();
            } else {
                throw new Fault(at, false);
            }
            entries.put(i, new Entry(tag, at, first, second, text));
            i += tag == 5 || tag == 6 ? 2 : 1;
        }
    }

    private String chars(int n) {
        want(file.length - p >= n, file.length);
        int end = p + n;
        StringBuilder s = new StringBuilder();
        while (p < end) {
            int a = file[p];
            int b = p + 1 < end ? file[p + 1] : 0;
            int c = p + 2 < end ? file[p + 2] : 0;
            if (a > 0 && a < 128) {
                s.append((char) a);
                p += 1;
            } else if (a / 32 == 6 && b / 64 == 2) {
                s.append((char) (64 * (a % 32) + b % 64));
                p += 2;
            } else if (a / 16 == 14 && b / 64 == 2 && c / 64 == 2) {
                s.append((char) (4096 * (a % 16) + 64 * (b % 64) + c % 64));
                p += 3;
            } else {
                throw new Fault(p, false);
            }
        }
        return s.toString();
    }

    int tag(int i) {
        return entries.containsKey(i) ? entries.get(i).tag : 0;
    }

    private boolean fits(int i, Pattern pattern) {
        return tag(i) == 1 && pattern.matcher(entries.get(i).text).matches();
    }

    private boolean names(int naming, Pattern descriptor) {
        return tag(naming) == 12 && fits(entries.get(naming).second, descriptor);
    }

    private boolean namesMethod(int naming) {
        return names(naming, METHOD_TYPE) && fits(entries.get(naming).first, METHOD_NAME)
                && !entries.get(entries.get(naming).first).text.equals("<clinit>");
    }

    private boolean sound(Entry e) {
        return switch (e.tag) {
            case 7 -> fits(e.first, PATHS)
                    || fits(e.first, FIELD_TYPE) && entries.get(e.first).text.startsWith("[");
            case 8 -> tag(e.first) == 1;
            case 16 -> fits(e.first, METHOD_TYPE);
            case 9 -> tag(e.first) == 7 && names(e.second, FIELD_TYPE);
            case 10, 11 -> tag(e.first) == 7 && namesMethod(e.second);
            case 12 -> fits(e.first, SIMPLE) && (fits(e.second, FIELD_TYPE) || fits(e.second, METHOD_TYPE));
            case 17 -> names(e.second, FIELD_TYPE);
            case 18 -> names(e.second, METHOD_TYPE);
            case 15 -> e.first >= 1 && e.first <= 9 && handled(e.first, tag(e.second));
            default -> true;
        };
    }

    private static boolean handled(int kind, int tag) {
        Set<Integer> wanted = List.of(Set.of(9), Set.of(9), Set.of(9), Set.of(9), Set.of(10),
                Set.of(10, 11), Set.of(10, 11), Set.of(10), Set.of(11)).get(kind - 1);
        return wanted.contains(tag);
    }

    private int plainClass(boolean orZero) {
        int x = u2();
        boolean good = tag(x) == 7 && fits(entries.get(x).first, PATHS);
        want(good || orZero && x == 0, p - 2);
        return x;
    }

    private int take(boolean orZero, Integer... tags) {
        int x = u2();
        want(List.of(tags).contains(tag(x)) || orZero && x == 0, p - 2);
        return x;
    }

    private int takeText(Pattern pattern) {
        int x = u2();
        want(fits(x, pattern), p - 2);
        return x;
    }

    private void head() {
        flags = u2();
        boolean face = (flags & 0x200) > 0;
        boolean end = (flags & 0x10) > 0;
        boolean open = (flags & 0x400) > 0;
        want(face ? open && !end : !(end && open), p - 2);
        self = plainClass(false);
        parent = plainClass(!face);
        int n = u2();
        for (int i = 0; i < n; i++) {
            interfaces.add(plainClass(false));
        }
    }

    private static boolean severalOf(int flags, int... masks) {
        int n = 0;
        for (int mask : masks) {
            n += (flags & mask) == 0 ? 0 : 1;
        }
        return n > 1;
    }

    private void once(List<Member> before, Member m, int at) {
        for (Member other : before) {
            boolean same = entries.get(other.name).text.equals(entries.get(m.name).text)
                    && entries.get(other.descriptor).text.equals(entries.get(m.descriptor).text);
            want(!same, at);
        }
    }

    private Member field() {
        Member m = new Member();
        m.flags = u2();
        want(!severalOf(m.flags, 1, 2, 4) && !severalOf(m.flags, 16, 64), p - 2);
        m.name = takeText(SIMPLE);
        m.descriptor = takeText(FIELD_TYPE);
        once(fields, m, p - 4);
        m.slots = entries.get(m.descriptor).text.matches("[JD]") ? 2 : 1;
        attributes("field", m);
        return m;
    }

    private Member method() {
        Member m = new Member();
        int at = p;
        m.flags = u2();
        boolean open = (m.flags & 1024) > 0;
        want(!severalOf(m.flags, 1, 2, 4) && !(open && (m.flags & 314) > 0), at);
        m.name = takeText(METHOD_NAME);
        m.descriptor = takeText(METHOD_TYPE);
        String name = entries.get(m.name).text;
        String descriptor = entries.get(m.descriptor).text;
        want(!name.equals("<clinit>") || descriptor.equals("()V"), p - 2);
        want(!name.equals("<init>") || descriptor.endsWith(")V"), p - 2);
        once(methods, m, p - 4);
        for (String type : types(descriptor)) {
            m.slots += type.matches("[JD]") ? 2 : 1;
        }
        attributes("method", m);
        want((m.value == NONE) == (open || (m.flags & 256) > 0), at);
        return m;
    }

    private static List<String> types(String descriptor) {
        List<String> all = new ArrayList<>();
        Matcher whole = METHOD_TYPE.matcher(descriptor);
        if (whole.matches()) {
            Matcher one = FIELD_TYPE.matcher(whole.group(1));
            while (one.find()) {
                all.add(one.group());
            }
        }
        return all;
    }

    private static final Map<String, Set<String>> KNOWN = Map.of(
            "field", Set.of("ConstantValue"),
            "method", Set.of("Code", "Exceptions"),
            "whole", Set.of("InnerClasses", "EnclosingMethod", "NestHost", "NestMembers",
                    "PermittedSubclasses", "BootstrapMethods"),
            "code", Set.of());

    private void attributes(String place, Member m) {
        m.attributes = u2();
        int n = m.attributes;
        Set<String> seen = new HashSet<>();
        for (int i = 0; i < n; i++) {
            int nameAt = p;
            String name = entries.get(take(false, 1)).text;
            if (KNOWN.get(place).contains(name)) {
                want(seen.add(name) && !(seen.contains("NestHost") && seen.contains("NestMembers")), nameAt);
            }
            long length = u(4);
            want(length <= file.length - p, file.length);
            int from = p;
            if (!KNOWN.get(place).contains(name)) {
                p += (int) length;
                continue;
            }
            known(name, m);
            want(p - from == length, from - 4);
        }
    }

    private void known(String name, Member m) {
        switch (name) {
            case "ConstantValue" -> {
                String d = entries.get(m.descriptor).text;
                int tag = d.matches("[BCISZ]") ? 3 : d.equals("J") ? 5 : d.equals("F") ? 4 : d.equals("D") ? 6
                        : d.equals("Ljava/lang/String;") ? 8 : -1;
                m.value = take(false, tag);
            }
            case "Code" -> code(m);
            case "Exceptions" -> m.thrown = classes(new ArrayList<>());
            case "InnerClasses" -> {
                int n = u2();
                for (int i = 0; i < n; i++) {
                    inner.add(new int[] {take(false, 7), take(true, 7), take(true, 1), u2()});
                }
            }
            case "EnclosingMethod" -> {
                enclosingClass = take(false, 7);
                enclosingNaming = take(true, 12);
            }
            case "NestHost" -> host = take(false, 7);
            case "NestMembers" -> classes(nest);
            case "PermittedSubclasses" -> classes(permitted);
            default -> {
                int n = u2();
                for (int i = 0; i < n; i++) {
                    int[] row = {take(false, 15), u2()};
                    for (int k = 0; k < row[1]; k++) {
                        take(false, 3, 4, 5, 6, 7, 8, 15, 16, 17);
                    }
                    bootstraps.add(row);
                }
            }
        }
    }

    private int classes(List<Integer> into) {
        int n = u2();
        for (int i = 0; i < n; i++) {
            into.add(take(false, 7));
        }
        return n;
    }

    private void code(Member m) {
        u(2);
        u(2);
        long size = u(4);
        want(size >= 1 && size <= 65535, p - 4);
        want(size <= file.length - p, file.length);
        p += (int) size;
        m.value = (int) size;
        m.rows = u2();
        for (int i = 0; i < m.rows; i++) {
            int start = u2();
            int end = u2();
            int handler = u2();
            want(start < end, p - 6);
            want(end <= size, p - 4);
            want(handler < size, p - 2);
            take(true, 7);
        }
        attributes("code", new Member());
    }

    /** The words for an entry; empty for one without. */
    String words(int i) {
        Entry e = entries.get(i);
        return switch (e.tag) {
            case 7 -> className(i);
            case 16 -> type(result(entries.get(e.first).text)) + list(entries.get(e.first).text);
            case 12 -> naming(e, "");
            case 9, 10, 11 -> naming(entries.get(e.second), className(e.first) + ".");
            default -> "";
        };
    }

    private String className(int i) {
        String name = entries.get(entries.get(i).first).text;
        return name.startsWith("[") ? type(name) : name.replace('/', '.');
    }

    private String naming(Entry e, String owner) {
        String name = entries.get(e.first).text;
        String d = entries.get(e.second).text;
        return METHOD_TYPE.matcher(d).matches()
                ? type(result(d)) + " " + owner + name + list(d) : type(d) + " " + owner + name;
    }

    private static String result(String descriptor) {
        Matcher m = METHOD_TYPE.matcher(descriptor);
        return m.matches() ? m.group(2) : "?";
    }

    private static String list(String descriptor) {
        List<String> words = new ArrayList<>();
        for (String type : types(descriptor)) {
            words.add(type(type));
        }
        return "(" + String.join(", ", words) + ")";
    }

    private static String type(String d) {
        String bare = d.replaceFirst("^\\[+", "");
        String word = bare.startsWith("L") ? bare.substring(1, bare.length() - 1).replace('/', '.')
                : Map.of("B", "byte", "C", "char", "D", "double", "F", "float", "I", "int",
                        "J", "long", "S", "short", "Z", "boolean", "V", "void").get(bare);
        return word + "[]".repeat(d.length() - bare.length());
    }
}
