import java.util.ArrayList;
import java.util.HashMap;
import java.util.HashSet;
import java.util.List;
import java.util.Map;
import java.util.Random;
import java.util.Set;

/** Makes class files by chance: most of what they say is sound; the odder, the more is not. */
final class Maker {
    private static final String[] FIELD_NAMES = {"f", "g", "A", "x<y", "<init>", "\u0000", "\u00e9\u8888"};
    private static final String[] METHOD_NAMES = {"f", "g", "<init>", "<clinit>", "I", "\u00e9)"};
    private static final String[] FIELD_TYPES = {"I", "J", "D", "F", "Z", "S", "B", "C", "Ljava/lang/String;",
        "[J", "[[Lp/Q;", "Lp/Q)V;"};
    private static final String[] METHOD_TYPES = {"()V", "(IJ)V", "([DD)J", "(Lp/V;Z)[I", "(La)b;[[SB)La;"};
    private static final String[] PATHS = {"A", "p/Q", "I", "a)b/c", "<x>"};
    private static final String[] ARRAYS = {"[I", "[[Lp/Q;"};
    private static final String[] WRONG = {"", "a.b", "a;", "[", "/a", "a/", "a//b", "L;", "[V", "V", "(", "()",
        "(V)V", "()VV", "II", "La", "<inits>", "(I"};
    private static final String[] OF_WHOLE = {"InnerClasses", "EnclosingMethod", "NestHost", "NestMembers",
        "PermittedSubclasses", "BootstrapMethods"};
    private static final String OTHER = "Other";

    private final Random chance;
    private final int oddity;
    private final ClassFile f = new ClassFile();
    private final Map<Integer, String> spelled = new HashMap<>();
    private final Map<String, List<Integer>> made = new HashMap<>();

    Maker(long seed, int oddity) {
        this.chance = new Random(seed);
        this.oddity = oddity;
    }

    private int below(int n) {
        return chance.nextInt(n);
    }

    private boolean odd() {
        return below(300) < oddity;
    }

    private List<Integer> of(String kind) {
        return made.computeIfAbsent(kind, k -> new ArrayList<>());
    }

    private int put(int number, String... kinds) {
        for (String kind : kinds) {
            of(kind).add(number);
        }
        return number;
    }

    /** One of the entries of this kind. */
    private int pick(String kind) {
        List<Integer> from = of(kind);
        return from.isEmpty() || odd() ? below(f.next() + 2) : from.get(below(from.size()));
    }

    private int orZero(String kind) {
        return of(kind).isEmpty() || below(4) == 0 ? 0 : pick(kind);
    }

    private int orOdd(int x) {
        return odd() ? below(65536) : x;
    }

    private void text(String[] from, String kind) {
        String s = odd() ? WRONG[below(WRONG.length)] : from[below(from.length)];
        int number = odd() ? f.rawText(65, below(256), below(256)) : f.text(s);
        spelled.put(number, s);
        put(number, kind, "text");
    }

    private void texts(String[] from, String kind, int n) {
        for (int i = 0; i < n; i++) {
            text(from, kind);
        }
    }

    byte[] make() {
        pool();
        f.endPool();
        if (odd()) {
            f.set2(8, below(f.next() + 3));
        }
        if (odd()) {
            f.set2(4 + 2 * below(2), below(80));
        }
        head();
        members(false, below(4));
        members(true, below(4));
        attributes(OF_WHOLE);
        if (odd()) {
            f.u1(0);
        }
        return f.bytes();
    }

    private void pool() {
        texts(FIELD_NAMES, "fieldName", 2);
        texts(METHOD_NAMES, "methodName", 2);
        texts(FIELD_TYPES, "fieldType", 3);
        texts(METHOD_TYPES, "methodType", 2);
        texts(PATHS, "path", 2);
        texts(OF_WHOLE, "attribute", 2);
        texts(new String[] {"Code"}, "attribute", 1);
        texts(new String[] {"ConstantValue", "Exceptions", OTHER}, "attribute", 1);
        put(f.one(7, pick("path")), "plain", "class", "constant");
        put(f.one(7, pick("path")), "plain", "class", "constant");
        if (below(3) == 0) {
            text(ARRAYS, "array");
            put(f.one(7, pick("array")), "class", "constant");
        }
        for (int n = below(16); n > 0; n--) {
            other();
        }
    }

    private void other() {
        switch (below(14)) {
            case 0 -> put(f.four(3, chance.nextInt() >> below(32)), "INT", "constant");
            case 1 -> put(f.four(4, below(4) == 0 ? below(2) << 31 : chance.nextInt()), "FLOAT", "constant");
            case 2 -> put(f.eight(5, chance.nextLong() >> below(60)), "LONG", "constant");
            case 3 -> put(f.eight(6, chance.nextLong()), "DOUBLE", "constant");
            case 4 -> put(f.one(8, pick("text")), "STRING", "constant");
            case 5 -> put(f.one(16, pick("methodType")), "constant");
            case 6, 7 -> put(f.two(12, pick("fieldName"), pick("fieldType")), "fieldNaming", "naming");
            case 8, 9 -> methodNaming();
            case 10 -> linked(9, "field", "fieldNaming");
            case 11 -> linked(10 + below(2), "method", "calledNaming");
            case 12 -> dynamic(17 + below(2));
            default -> handle();
        }
    }

    private void methodNaming() {
        int name = pick("methodName");
        int number = put(f.two(12, name, pick("methodType")), "methodNaming", "naming");
        if (!"<clinit>".equals(spelled.get(name)) || odd()) {
            put(number, "calledNaming");
        }
    }

    private void linked(int tag, String kind, String naming) {
        if (!of(naming).isEmpty()) {
            put(f.two(tag, pick("class"), pick(naming)), kind, kind + tag);
        }
    }

    private void dynamic(int tag) {
        String naming = tag == 17 ? "fieldNaming" : "methodNaming";
        boolean started = !of("handle").isEmpty() && spells("BootstrapMethods");
        if (!of(naming).isEmpty() && (started || odd())) {
            int number = f.two(tag, orOdd(below(8) / 7), pick(naming));
            put(number, tag == 17 ? "constant" : "call");
        }
    }

    private boolean spells(String attribute) {
        for (int text : of("attribute")) {
            if (attribute.equals(spelled.get(text))) {
                return true;
            }
        }
        return false;
    }

    private void handle() {
        int kind = odd() ? below(256) : 1 + below(9);
        String named = kind <= 4 ? "field" : kind == 9 ? "method11" : below(3) == 0 ? "method" : "method10";
        if (!of(named).isEmpty()) {
            put(f.handle(kind, pick(named)), "handle", "constant");
        }
    }

    private void head() {
        boolean face = below(4) == 0;
        int[] flags = {0x21, 0x31, 0x421, 0x4000};
        f.u2(orOdd(face ? 0x600 : flags[below(4)]));
        f.all(pick("plain"), face ? pick("plain") : orZero("plain"));
        list("plain", below(3));
    }

    private void list(String kind, int n) {
        f.u2(n);
        for (int i = 0; i < n; i++) {
            f.u2(pick(kind));
        }
    }

    private void members(boolean method, int most) {
        List<int[]> chosen = new ArrayList<>();
        Set<String> before = new HashSet<>();
        for (int i = 0; i < most; i++) {
            int name = pick(method ? "methodName" : "fieldName");
            int type = pick(method ? "methodType" : "fieldType");
            String spelling = spelled.get(name) + " " + spelled.get(type);
            boolean fitting = !spelling.startsWith("<") || spelling.equals("<clinit> ()V")
                    || spelling.startsWith("<init>") && (!method || spelling.endsWith("V"));
            if (before.add(spelling) && fitting || odd()) {
                chosen.add(new int[] {name, type});
            }
        }
        f.u2(chosen.size());
        for (int[] one : chosen) {
            if (method) {
                method(one[0], one[1]);
            } else {
                f.u2(orOdd(new int[] {0, 1, 2, 4, 0x18, 0x40}[below(6)])).all(one);
                String constant = constantKind(spelled.getOrDefault(one[1], ""));
                if (of(constant).isEmpty() && !odd()) {
                    attributes(OTHER);
                } else {
                    attributes("ConstantValue " + constant, OTHER);
                }
            }
        }
    }

    private void method(int name, int type) {
        boolean bare = below(3) == 0;
        int[] flags = bare ? new int[] {0x400, 0x401, 0x100, 0x400} : new int[] {0, 1, 2, 0x30};
        f.u2(orOdd(flags[below(4)])).all(name, type);
        if (bare) {
            attributes("Exceptions");
        } else {
            attributes("Code", "Code", "Code", "Exceptions");
        }
    }

    /** Each of these names that the pool has, once; now and then another one too. */
    private void attributes(String... names) {
        List<Integer> chosen = new ArrayList<>();
        Set<String> before = new HashSet<>();
        for (int text : of("attribute")) {
            String name = spelled.get(text);
            for (String wanted : names) {
                boolean rival = name.startsWith("Nest") && (before.contains("NestHost") || before.contains("NestMembers"));
                if (wanted.split(" ")[0].equals(name) && (!rival && before.add(name) || odd())) {
                    chosen.add(text);
                }
            }
        }
        if (below(4) == 0) {
            int text = pick("attribute");
            if (names.length == 0 || spelled.get(text) != null && spelled.get(text).equals(OTHER) || odd()) {
                chosen.add(below(chosen.size() + 1), text);
            }
        }
        f.u2(chosen.size());
        for (int text : chosen) {
            f.u2(text);
            int lengthAt = f.size();
            f.u4(0);
            body(spelled.getOrDefault(text, OTHER), names);
            int length = f.size() - lengthAt - 4;
            f.set2(lengthAt + 2, odd() ? length - 2 + below(5) : length);
        }
    }

    private void body(String name, String... names) {
        boolean isKnown = false;
        for (String wanted : names) {
            isKnown = isKnown || wanted.split(" ")[0].equals(name);
        }
        switch (isKnown ? name : OTHER) {
            case "ConstantValue" -> f.u2(pick(names[0].split(" ")[1]));
            case "Code" -> code();
            case "Exceptions", "NestMembers", "PermittedSubclasses" -> list("class", below(4));
            case "InnerClasses" -> {
                int n = below(3);
                f.u2(n);
                for (int i = 0; i < n; i++) {
                    f.all(pick("class"), orZero("class"), orZero("text"), below(65536));
                }
            }
            case "EnclosingMethod" -> f.all(pick("class"), orZero("naming"));
            case "NestHost" -> f.u2(pick("class"));
            case "BootstrapMethods" -> {
                int n = of("handle").isEmpty() ? 0 : 1 + below(3);
                f.u2(n);
                for (int i = 0; i < n; i++) {
                    f.u2(pick("handle"));
                    list("constant", below(3));
                }
            }
            default -> {
                for (int i = below(4); i > 0; i--) {
                    f.u1(below(256));
                }
            }
        }
    }

    private static String constantKind(String type) {
        return switch (type) {
            case "J" -> "LONG";
            case "F" -> "FLOAT";
            case "D" -> "DOUBLE";
            case "Ljava/lang/String;" -> "STRING";
            case "B", "C", "I", "S", "Z" -> "INT";
            default -> "none";
        };
    }

    private void code() {
        int size = 1 + below(5);
        f.all(below(9), below(9)).u4(odd() ? below(3) * 65535 : size);
        for (int i = 0; i < size; i++) {
            f.u1(below(256));
        }
        int rows = below(3);
        f.u2(rows);
        for (int i = 0; i < rows; i++) {
            int end = 1 + below(size);
            f.all(orOdd(below(end)), orOdd(end), orOdd(below(size)), orZero("class"));
        }
        attributes();
    }
}
